/-! Pure: the class's counts, and its rows whole. -/
def cfr (p : Nat → Bool) : Nat → Nat → Nat
  | 0, _ => 0
  | m + 1, a => (if p a then 1 else 0) + cfr p m (a + 1)
theorem cfr_le (p : Nat → Bool) : ∀ m a, cfr p m a ≤ m := by
  intro m
  induction m with
  | zero => intro a; exact Nat.le_refl _
  | succ m ih =>
    intro a
    have := ih (a + 1)
    rw [cfr]
    split <;> omega
theorem cfr_count (p : Nat → Bool) : ∀ m a, cfr p m a = (List.range m).countP fun i => p (a + i) := by
  intro m
  induction m with
  | zero => intro a; rfl
  | succ m ih =>
    intro a
    rw [cfr, ih (a + 1), List.range_succ_eq_map, List.countP_cons, List.countP_map]
    have e : ((fun i => p (a + i)) ∘ Nat.succ) = fun i => p (a + 1 + i) := by
      funext i
      show p (a + (i + 1)) = p (a + 1 + i)
      rw [Nat.add_right_comm, ← Nat.add_assoc]
    rw [e, Nat.add_zero]
    omega
theorem cfr_80 (p : Nat → Bool) : cfr p 80 0 = cnt p := by
  rw [cfr_count]
  unfold cnt
  congr 1
  funext i
  rw [Nat.zero_add]
theorem cel.b {A : Shh} {bf : Nat → Int32} {vf : Nat → UInt64} (c : cel A bf vf) {k : Nat} (hk : k < 80) : bf k = if (A k).isSome = true then 1 else 0 := by
  match e : A k with
  | none => rw [((c k hk).1 e).1]; rfl
  | some (.inl d) => rw [((c k hk).2.1 d e).1]; rfl
  | some (.inr L) => rw [(c k hk).2.2 L e]; rfl
theorem ff_L5 {E : fs_E} {h : fs_Hp} {A : Shh} {ce fil fo va re ga od b : Nat} {st : Int32} {bf : Nat → Int32} {vf : Nat → UInt64} {K : Int32 → fs_Hp → Prop} {Post : fs_Ps} (hc : ceF E h ce fil fo va re ga od st bf vf) (hcel : cel A bf vf) (hb : b ≤ 80) : ∀ (m z acc : Nat), z + m = b → K (nI (acc + cfr (fun k => (A k).isSome) m z)) h → w_CE_filledFrom_L5 E K Post (m + 1) ce (nI b) (nI acc) (nI z) h := by
  intro m
  induction m with
  | zero =>
    intro z acc hz hK
    rw [w_CE_filledFrom_L5]
    try dsimp only
    rw [if_pos (nI_le (by omega) (by omega))]
    exact hK
  | succ m ih =>
    intro z acc hz hK
    rw [w_CE_filledFrom_L5]
    try dsimp only
    rw [if_neg (nI_ge (by omega) (by omega)), nI_1, nI_1]
    refine fs_gr_of hc.1 rfl (fs_ai_of hc.2.1 (nI_in (by omega) (by omega)) ?_)
    rw [nI_clamp (by omega), hcel.b (by omega)]
    rw [cfr] at hK
    by_cases hA : (A z).isSome = true
    · rw [if_pos hA, if_neg (show ¬ (1 : Int32) = 0 by decide)]
      rw [if_pos hA, ← Nat.add_assoc] at hK
      exact ih (z + 1) (acc + 1) (by omega) hK
    · rw [if_neg hA, if_pos rfl]
      rw [if_neg hA, Nat.zero_add] at hK
      exact ih (z + 1) acc (by omega) hK
theorem cls_filledFrom {E : fs_E} {h : fs_Hp} {A : Shh} {ce fil fo va re ga od a b : Nat} {st : Int32} {bf : Nat → Int32} {vf : Nat → UInt64} {Post : fs_Ps} (hc : ceF E h ce fil fo va re ga od st bf vf) (hcel : cel A bf vf) (hb : b ≤ 80) (hab : a ≤ b) (K : Post (.inl (some (.int (nI (cfr (fun k => (A k).isSome) (b - a) a))))) h) : w_CE_filledFrom E h ce (nI a) (nI b) Post := by
  refine ⟨b - a + 1, ?_⟩
  exact ff_L5 (A := A) hc hcel hb (b - a) a 0 (by omega) (by rw [Nat.zero_add]; exact K)
theorem fa_L4 {E : fs_E} {h : fs_Hp} {A : Shh} {ce fil fo va re ga od : Nat} {st : Int32} {bf : Nat → Int32} {vf : Nat → UInt64} {ff rf : Nat → Option Nat} {oo : Nat → Int32} {Fs : Nat → List Nat} {K : Int32 → fs_Hp → Prop} {Post : fs_Ps} (hc : csr E h ce fil fo va re ga od st bf vf ff rf oo) (ht : trs E h A ff Fs) : ∀ (m z acc : Nat), z + m = 80 → K (nI (acc + cfr (fun k => (fmo (A k)).isSome) m z)) h → w_CE_formulasInAll_L4 E K Post (m + 1) ce (nI acc) (nI z) h := by
  intro m
  induction m with
  | zero =>
    intro z acc hz hK
    rw [w_CE_formulasInAll_L4]
    try dsimp only
    rw [if_pos (show (80 : Int32) ≤ nI z from nI_le (a := 80) (by omega) (by omega))]
    exact hK
  | succ m ih =>
    intro z acc hz hK
    have hz8 : z < 80 := by omega
    rw [w_CE_formulasInAll_L4]
    try dsimp only
    rw [if_neg (show ¬ (80 : Int32) ≤ nI z from nI_ge (b := 80) hz8 (by decide)), nI_1, nI_1]
    refine fs_gr_of hc.1.1 rfl (fs_aq_of hc.2.2.1 (nI_in hz8 (by omega)) ?_)
    rw [nI_clamp (by omega)]
    rw [cfr] at hK
    by_cases hf : ∃ L, A z = some (.inr L)
    · obtain ⟨L, hL⟩ := hf
      obtain ⟨r0, r1, r2⟩ := (ht z hz8).1 L hL
      rw [r1]
      try dsimp only
      rw [if_pos (show (fmo (A z)).isSome = true by rw [hL]; rfl), ← Nat.add_assoc] at hK
      exact ih (z + 1) (acc + 1) (by omega) hK
    · have hno : ∀ L, A z ≠ some (.inr L) := fun L hL => hf ⟨L, hL⟩
      rw [(ht z hz8).2 hno]
      try dsimp only
      have hm : ¬ (fmo (A z)).isSome = true := by
        match e : A z with
        | none => exact fun z => (by cases z)
        | some (.inl d) => exact fun z => (by cases z)
        | some (.inr L) => exact absurd e (hno L)
      rw [if_neg hm, Nat.zero_add] at hK
      exact ih (z + 1) acc (by omega) hK
theorem cls_formulas {E : fs_E} {h : fs_Hp} {A : Shh} {ce fil fo va re ga od : Nat} {st : Int32} {bf : Nat → Int32} {vf : Nat → UInt64} {ff rf : Nat → Option Nat} {oo : Nat → Int32} {Fs : Nat → List Nat} {Post : fs_Ps} (hc : csr E h ce fil fo va re ga od st bf vf ff rf oo) (ht : trs E h A ff Fs) (K : Post (.inl (some (.int (nI (cnt (fun k => (fmo (A k)).isSome)))))) h) : w_CE_formulasInAll E h ce Post := by
  refine ⟨80 + 1, ?_⟩
  exact fa_L4 (A := A) (Fs := Fs) hc ht 80 0 0 (by omega) (by rw [Nat.zero_add, cfr_80]; exact K)
def smr (f : Nat → Nat) : Nat → Nat → Nat
  | 0, _ => 0
  | m + 1, a => f a + smr f m (a + 1)
theorem la_L4 {E : fs_E} {h : fs_Hp} {A : Shh} {ce fil fo va re ga od : Nat} {st : Int32} {bf : Nat → Int32} {vf : Nat → UInt64} {ff rf : Nat → Option Nat} {oo : Nat → Int32} {Fs : Nat → List Nat} {K : Int32 → fs_Hp → Prop} {Post : fs_Ps} (hc : csr E h ce fil fo va re ga od st bf vf ff rf oo) (ht : trs E h A ff Fs) : ∀ (m z acc : Nat), z + m = 80 → K (nI (acc + smr (fun k => lsC (A k)) m z)) h → w_CE_lostInAll_L4 E K Post (m + 1) ce (nI acc) (nI z) h := by
  intro m
  induction m with
  | zero =>
    intro z acc hz hK
    rw [w_CE_lostInAll_L4]
    try dsimp only
    rw [if_pos (show (80 : Int32) ≤ nI z from nI_le (a := 80) (by omega) (by omega))]
    exact hK
  | succ m ih =>
    intro z acc hz hK
    have hz8 : z < 80 := by omega
    have zin : vp_in (nI z) 80 := nI_in hz8 (by omega)
    rw [w_CE_lostInAll_L4]
    try dsimp only
    rw [if_neg (show ¬ (80 : Int32) ≤ nI z from nI_ge (b := 80) hz8 (by decide)), nI_1]
    refine fs_gr_of hc.1.1 rfl (fs_aq_of hc.2.2.1 zin ?_)
    rw [nI_clamp (by omega)]
    rw [smr] at hK
    by_cases hf : ∃ L, A z = some (.inr L)
    · obtain ⟨L, hL⟩ := hf
      obtain ⟨r0, r1, r2⟩ := (ht z hz8).1 L hL
      rw [r1]
      try dsimp only
      refine fs_gr_of hc.1.1 rfl (fs_aq_of hc.2.2.1 zin ?_)
      rw [nI_clamp (by omega), r1]
      try dsimp only
      refine (show ∀ {Post : fs_Ps}, Post (.inl (some (.int (nI (lsL L))))) h → w_N_lostReferences 42 E h r0 Post from fun K' => cls_lost 41 r2 K') (fs_ki_of ?_)
      rw [nI_add]
      refine ih (z + 1) (acc + lsL L) (by omega) ?_
      rw [show lsC (A z) = lsL L by rw [hL]; rfl, ← Nat.add_assoc] at hK
      exact hK
    · have hno : ∀ L, A z ≠ some (.inr L) := fun L hL => hf ⟨L, hL⟩
      rw [(ht z hz8).2 hno]
      try dsimp only
      have hm : lsC (A z) = 0 := by
        match e : A z with
        | none => rfl
        | some (.inl d) => rfl
        | some (.inr L) => exact absurd e (hno L)
      rw [hm, Nat.zero_add] at hK
      exact ih (z + 1) acc (by omega) hK
theorem cls_lostAll {E : fs_E} {h : fs_Hp} {A : Shh} {ce fil fo va re ga od : Nat} {st : Int32} {bf : Nat → Int32} {vf : Nat → UInt64} {ff rf : Nat → Option Nat} {oo : Nat → Int32} {Fs : Nat → List Nat} {Post : fs_Ps} (hc : csr E h ce fil fo va re ga od st bf vf ff rf oo) (ht : trs E h A ff Fs) (K : Post (.inl (some (.int (nI (smr (fun k => lsC (A k)) 80 0))))) h) : w_CE_lostInAll E h ce Post := by
  refine ⟨80 + 1, ?_⟩
  exact la_L4 (A := A) (Fs := Fs) hc ht 80 0 0 (by omega) (by rw [Nat.zero_add]; exact K)
theorem ca_L8 {E : fs_E} {h : fs_Hp} {A : Shh} {ce fil fo va re ga od : Nat} {st : Int32} {bf : Nat → Int32} {vf : Nat → UInt64} {ff rf : Nat → Option Nat} {oo : Nat → Int32} {K : Int32 → fs_Hp → Prop} {Post : fs_Ps} (hc : csr E h ce fil fo va re ga od st bf vf ff rf oo) (hr : rset h rf (rea A)) : ∀ (m z acc : Nat), z + m = 80 → K (nI (acc + cfr (fun k => rea A k k) m z)) h → w_CE_circularInAll_L8 E K Post (m + 1) ce (nI acc) (nI z) h := by
  intro m
  induction m with
  | zero =>
    intro z acc hz hK
    rw [w_CE_circularInAll_L8]
    try dsimp only
    rw [if_pos (show (80 : Int32) ≤ nI z from nI_le (a := 80) (by omega) (by omega))]
    exact hK
  | succ m ih =>
    intro z acc hz hK
    have hz8 : z < 80 := by omega
    rw [w_CE_circularInAll_L8]
    try dsimp only
    rw [if_neg (show ¬ (80 : Int32) ≤ nI z from nI_ge (b := 80) hz8 (by decide)), nI_1, nI_1]
    refine ⟨hc.isc, ce_circ hz8 hc hr (fs_ki_of ?_)⟩
    rw [cfr] at hK
    cases e : rea A z z with
    | true =>
      rw [bi_1 rfl, if_neg (show ¬ (1 : Int32) = 0 by decide)]
      rw [if_pos e, ← Nat.add_assoc] at hK
      exact ih (z + 1) (acc + 1) (by omega) hK
    | false =>
      rw [bi_0 rfl, if_pos rfl]
      rw [if_neg (by rw [e]; decide), Nat.zero_add] at hK
      exact ih (z + 1) acc (by omega) hK
/-- the cell's VALUE is BAD -/
def isB (A : Shh) (k : Nat) : Bool := (A k).isSome && (val A k).isNone
theorem ba_L8 {E : fs_E} {h : fs_Hp} {A : Shh} {ce fil fo va re ga od : Nat} {st : Int32} {bf : Nat → Int32} {vf : Nat → UInt64} {K : Int32 → fs_Hp → Prop} {Post : fs_Ps} (hc : ceF E h ce fil fo va re ga od st bf vf) (hcel : cel A bf vf) (hv : vfit A vf []) : ∀ (m z acc : Nat), z + m = 80 → K (nI (acc + cfr (isB A) m z)) h → w_CE_badInAll_L8 E K Post (m + 1) ce (nI acc) (nI z) h := by
  intro m
  induction m with
  | zero =>
    intro z acc hz hK
    rw [w_CE_badInAll_L8]
    try dsimp only
    rw [if_pos (show (80 : Int32) ≤ nI z from nI_le (a := 80) (by omega) (by omega))]
    exact hK
  | succ m ih =>
    intro z acc hz hK
    have hz8 : z < 80 := by omega
    rw [w_CE_badInAll_L8]
    try dsimp only
    rw [if_neg (show ¬ (80 : Int32) ≤ nI z from nI_ge (b := 80) hz8 (by decide)), nI_1, nI_1]
    refine fs_gr_of hc.1 rfl (fs_ad_of hc.2.2.1 (nI_in hz8 (by omega)) ?_)
    rw [nI_clamp (by omega)]
    rw [cfr] at hK
    have hnn := hc.2.2.2.2 z hz8
    have good : ¬ isB A z = true → nb (vf z) → w_SH_isBad E h (vf z) (fs_ki (fun x106 h105 => (if x106 = 0 then (w_CE_badInAll_L8 E K Post (m + 1)) ce (nI acc) (nI (z + 1)) h105 else (w_CE_badInAll_L8 E K Post (m + 1)) ce (nI (acc + 1)) (nI (z + 1)) h105)) (fun C_ h_ => Post (.inr C_) h_)) := by
      intro hb hn
      refine isBad_ok hn (fs_ki_of ?_)
      rw [if_pos rfl]
      rw [if_neg hb, Nat.zero_add] at hK
      exact ih (z + 1) acc (by omega) hK
    match e : A z with
    | none =>
      refine good (by unfold isB; rw [e]; decide) ?_
      rw [((hcel z hz8).1 e).2]
      exact nb_0
    | some y =>
      have hne : A z ≠ none := by rw [e]; exact fun z => by cases z
      have hck := hv z hz8 hne (by simp)
      by_cases hn : nb (vf z)
      · refine good ?_ hn
        rw [ck_ok hn] at hck
        unfold isB
        rw [e, ← hck]
        decide
      · refine isBad_bad hnn hn (fs_ki_of ?_)
        rw [if_neg (show ¬ (1 : Int32) = 0 by decide)]
        rw [ck_bad hnn hn] at hck
        have hb : isB A z = true := by
          unfold isB
          rw [e, ← hck]
          rfl
        rw [if_pos hb, ← Nat.add_assoc] at hK
        exact ih (z + 1) (acc + 1) (by omega) hK
theorem er_L2z {E : fs_E} {A : Shh} {ce fil fo va re ga od r : Nat} {rf : Nat → Option Nat} {oo : Nat → Int32} {Fs : Nat → List Nat} {K : fs_Hp → Prop} {Post : fs_Ps} (hr : r < 10) : ∀ (m c : Nat) (h : fs_Hp) (st : Int32) (bf : Nat → Int32) (vf : Nat → UInt64) (ff : Nat → Option Nat), c + m = 8 → (m = 0 → st = 0) → clL E h (emR none (r * 8) (r * 8 + c) A) ce fil fo va re ga od st bf vf ff rf oo (emR [] (r * 8) (r * 8 + c) Fs) → (∀ h' bf' vf' ff', clL E h' (emR none (r * 8) (r * 8 + 8) A) ce fil fo va re ga od 0 bf' vf' ff' rf oo (emR [] (r * 8) (r * 8 + 8) Fs) → fcF ce fil va fo h h' → K h') → w_CE_emptyRow_L2 E K Post (m + 1) ce (nI r) (nI c) h := by
  intro m
  induction m with
  | zero =>
    intro c h st bf vf ff hc hst hcl hK
    rw [w_CE_emptyRow_L2]
    try dsimp only
    rw [if_pos (show (8 : Int32) ≤ nI c from nI_le (a := 8) (by omega) (by omega))]
    rw [show c = 8 by omega, hst rfl] at hcl
    exact hK h bf vf ff hcl fcF.rf
  | succ m ih =>
    intro c h st bf vf ff hc _ hcl hK
    obtain ⟨c1, c2, c3⟩ := cell80 (show c < 8 by omega) hr
    rw [w_CE_emptyRow_L2]
    try dsimp only
    rw [if_neg (show ¬ (8 : Int32) ≤ nI c from nI_ge (b := 8) (by omega) (by decide)), c1, nI_1]
    refine ⟨hcl.isc, cls_empty (by omega) hcl fun h' bf' vf' ff' a b => fs_kv_of ?_⟩
    refine ih (c + 1) h' 0 bf' vf' ff' (by omega) (fun _ => rfl) (a.cong (fun q hq => ?_) (fun q hq => ?_)) fun h2 bf2 vf2 ff2 a2 b2 => hK h2 bf2 vf2 ff2 a2 (b.trans b2)
    · try dsimp only
      unfold emR
      by_cases hqz : q = r * 8 + c
      · rw [if_pos (by omega), if_pos hqz]
      · rw [if_neg hqz]
        by_cases hlt : r * 8 ≤ q ∧ q < r * 8 + c
        · rw [if_pos hlt, if_pos (by omega)]
        · rw [if_neg hlt, if_neg (by omega)]
    · try dsimp only
      unfold emR
      by_cases hqz : q = r * 8 + c
      · rw [if_pos (by omega), if_pos hqz]
      · rw [if_neg hqz]
        by_cases hlt : r * 8 ≤ q ∧ q < r * 8 + c
        · rw [if_pos hlt, if_pos (by omega)]
        · rw [if_neg hlt, if_neg (by omega)]
def shD {α : Type} (a z : Nat) (f : Nat → α) (q : Nat) : α := if a ≤ q ∧ q < z then f (q + 8) else f q
theorem ro_L20 {E : fs_E} {A : Shh} {ce fil fo va re ga od r : Nat} {rf : Nat → Option Nat} {oo : Nat → Int32} {Fs : Nat → List Nat} {z2 : Int32} {K : fs_Hp → Prop} {Post : fs_Ps} : ∀ (m z : Nat) (h : fs_Hp) (st : Int32) (bf : Nat → Int32) (vf : Nat → UInt64) (ff : Nat → Option Nat), z + m = 72 → r * 8 ≤ z → clL E h (shD (r * 8) z A) ce fil fo va re ga od st bf vf ff rf oo (shD (r * 8) z Fs) → (∀ h' st' bf' vf' ff', clL E h' (shD (r * 8) 72 A) ce fil fo va re ga od st' bf' vf' ff' rf oo (shD (r * 8) 72 Fs) → fcF ce fil va fo h h' → K h') → w_CE_rowOut_L20 E K Post (m + 1) ce (nI r) z2 (nI z) h := by
  intro m
  induction m with
  | zero =>
    intro z h st bf vf ff hz h80 hc hK
    rw [w_CE_rowOut_L20]
    try dsimp only
    rw [if_pos (show (72 : Int32) ≤ nI z from nI_le (a := 72) (by omega) (by omega))]
    rw [show z = 72 by omega] at hc
    exact hK h st bf vf ff hc fcF.rf
  | succ m ih =>
    intro z h st bf vf ff hz h80 hc hK
    rw [w_CE_rowOut_L20]
    try dsimp only
    rw [if_neg (show ¬ (72 : Int32) ≤ nI z from nI_ge (b := 72) (by omega) (by decide)), show (nI z + 8 : Int32) = nI (z + 8) from nI_add z 8, nI_1]
    refine ⟨hc.isc, cls_take (show z < 80 by omega) (show z + 8 < 80 by omega) hc fun h' bf' vf' ff' a b => fs_kv_of ?_⟩
    refine ih (z + 1) h' 0 bf' vf' ff' (by omega) (by omega) (a.cong (fun q hq => ?_) (fun q hq => ?_)) fun h2 st2 bf2 vf2 ff2 a2 b2 => hK h2 st2 bf2 vf2 ff2 a2 (b.trans b2)
    · try dsimp only
      unfold shD
      by_cases hqz : q = z
      · rw [if_pos (show r * 8 ≤ q ∧ q < z + 1 by omega), if_pos hqz, if_neg (by omega), hqz]
      · rw [if_neg hqz]
        by_cases hlt : r * 8 ≤ q ∧ q < z
        · rw [if_pos hlt, if_pos (by omega)]
        · rw [if_neg hlt, if_neg (by omega)]
    · try dsimp only
      unfold shD
      by_cases hqz : q = z
      · rw [if_pos (show r * 8 ≤ q ∧ q < z + 1 by omega), if_pos hqz, if_neg (by omega), hqz]
      · rw [if_neg hqz]
        by_cases hlt : r * 8 ≤ q ∧ q < z
        · rw [if_pos hlt, if_pos (by omega)]
        · rw [if_neg hlt, if_neg (by omega)]
/-- the formulas of a sheet are some of another's -/
def fsb (A : Shh) (Fs : Nat → List Nat) (A' : Shh) (Fs' : Nat → List Nat) : Prop := ∀ k, k < 80 → (∃ L, A' k = some (.inr L)) → ∃ j, j < 80 ∧ (∃ L, A j = some (.inr L)) ∧ Fs' k = Fs j
theorem dsj.re {h h' : fs_Hp} {A A' : Shh} {Fs Fs' : Nat → List Nat} (d : dsj h A Fs) (s : Nat → Nat) (hs : ∀ k, k < 80 → (∃ L, A' k = some (.inr L)) → s k < 80 ∧ A' k = A (s k) ∧ Fs' k = Fs (s k)) (hi : ∀ k j, k < 80 → j < 80 → (∃ L, A' k = some (.inr L)) → (∃ L, A' j = some (.inr L)) → k ≠ j → s k ≠ s j) (h5 : ∀ q fs, h' q = some (.inr (5, fs)) → ∃ fs', h q = some (.inr (5, fs'))) : dsj h' A' Fs' := by
  refine ⟨fun k hk L hL => ?_, fun k j hk hj hkj fk fj q q1 q2 fs e => ?_⟩
  · obtain ⟨s1, s2, s3⟩ := hs k hk ⟨L, hL⟩
    rw [s3]
    exact d.1 (s k) s1 L (s2.symm.trans hL)
  · obtain ⟨s1, s2, s3⟩ := hs k hk fk
    obtain ⟨t1, t2, t3⟩ := hs j hj fj
    rw [s3] at q1
    rw [t3] at q2
    rw [s2] at fk
    obtain ⟨fs', e'⟩ := h5 q fs e
    have fj' := fj
    rw [t2] at fj'
    exact d.2 (s k) (s j) s1 t1 (hi k j hk hj (by rw [s2]; exact fk) fj hkj) fk fj' q q1 q2 fs' e'
theorem clL.is5 {E : fs_E} {h h' : fs_Hp} {A : Shh} {ce fil fo va re ga od : Nat} {st : Int32} {bf : Nat → Int32} {vf : Nat → UInt64} {ff rf : Nat → Option Nat} {oo : Nat → Int32} {Fs : Nat → List Nat} (c : clL E h' A ce fil fo va re ga od st bf vf ff rf oo Fs) (f : fcF ce fil va fo h h') : ∀ q fs, h' q = some (.inr (5, fs)) → ∃ fs', h q = some (.inr (5, fs')) := by
  intro q fs e
  have n1 : q ≠ ce := fun z => by rw [z, c.1.1.1] at e; cases e
  have n2 : q ≠ fil := fun z => by rw [z, c.1.1.2.1] at e; cases e
  have n3 : q ≠ va := fun z => by rw [z, c.1.1.2.2.1] at e; cases e
  have n4 : q ≠ fo := fun z => by rw [z, c.1.2.2.1] at e; cases e
  exact ⟨fs, by rw [← f q n1 n2 n3 n4]; exact e⟩
/-- what rows that come and go leave -/
def rwF (ce fil va fo : Nat) (h h' : fs_Hp) : Prop := ∀ q, q ≠ ce → q ≠ fil → q ≠ va → q ≠ fo → h' q = h q ∨ ((∃ fs, h q = some (.inr (5, fs))) ∧ ∃ fs, h' q = some (.inr (5, fs)))
theorem mpU_0 (g : It → It) (A : Shh) : mpU g 0 A = A := by
  funext q
  unfold mpU
  rw [if_neg (Nat.not_lt_zero q)]
theorem cls_rowIn {E : fs_E} {h : fs_Hp} {A : Shh} {ce fil fo va re ga od r : Nat} {st : Int32} {bf : Nat → Int32} {vf : Nat → UInt64} {ff rf : Nat → Option Nat} {oo : Nat → Int32} {Fs : Nat → List Nat} {Post : fs_Ps} (hr : r < 10) (c : clL E h A ce fil fo va re ga od st bf vf ff rf oo Fs) (d : dsj h A Fs) (K : ∀ h' bf' vf' ff' Fs', clL E h' (insS A r) ce fil fo va re ga od 0 bf' vf' ff' rf oo Fs' → dsj h' (insS A r) Fs' → rwF ce fil va fo h h' → fsb A Fs (insS A r) Fs' → Post (.inl (some (.int (nI (rowc A 9))))) h') : w_CE_rowIn E h ce (nI r) Post := by
  refine ⟨c.isc, ?_⟩
  refine (show ∀ {Post : fs_Ps}, Post (.inl (some (.int (nI (cfr (fun k => (A k).isSome) (80 - 72) 72))))) h → w_CE_filledFrom E h ce 72 80 Post from fun K' => cls_filledFrom (A := A) c.1.1 c.2.2.2.2.1 (Nat.le_refl 80) (by omega) K') (fs_ki_of ?_)
  have e9 : cfr (fun k => (A k).isSome) (80 - 72) 72 = rowc A 9 := by
    rw [cfr_count]
    rfl
  rw [e9]
  refine ⟨80 - (r + 1) * 8 + 1, ?_⟩
  have c0 : clL E h (shU 79 A) ce fil fo va re ga od st bf vf ff rf oo (shU 79 Fs) := c.cong (fun q hq => by unfold shU; rw [if_neg (by omega)]) (fun q hq => by unfold shU; rw [if_neg (by omega)])
  refine ri_L12 (A := A) (Fs := Fs) hr (80 - (r + 1) * 8) 79 h st bf vf ff (by omega) (by omega) c0 fun h1 st1 bf1 vf1 ff1 c1 f1 => ⟨c1.isc, ?_⟩
  refine ⟨8 + 1, ?_⟩
  have c2 : clL E h1 (emR none (r * 8) (r * 8 + 0) (shU ((r + 1) * 8 - 1) A)) ce fil fo va re ga od st1 bf1 vf1 ff1 rf oo (emR [] (r * 8) (r * 8 + 0) (shU ((r + 1) * 8 - 1) Fs)) := c1.cong (fun q hq => by unfold emR; rw [if_neg (by omega)]) (fun q hq => by unfold emR; rw [if_neg (by omega)])
  refine er_L2z hr 8 0 h1 st1 bf1 vf1 ff1 (by omega) (fun z => by cases z) c2 fun h2 bf2 vf2 ff2 c3 f2 => fs_kv_of ⟨80 + 1, ?_⟩
  have hA : ∀ q, emR none (r * 8) (r * 8 + 8) (shU ((r + 1) * 8 - 1) A) q = insA A r q := by
    intro q
    unfold emR shU insA
    by_cases q1 : q / 8 < r
    · rw [if_neg (by omega), if_neg (by omega), if_pos q1]
    · rw [if_neg q1]
      by_cases q2 : q / 8 = r
      · rw [if_pos (by omega), if_pos q2]
      · rw [if_neg (by omega), if_pos (by omega), if_neg q2]
  have eA : emR none (r * 8) (r * 8 + 8) (shU ((r + 1) * 8 - 1) A) = insA A r := funext hA
  have hFs : ∃ Fs', Fs' = emR [] (r * 8) (r * 8 + 8) (shU ((r + 1) * 8 - 1) Fs) := ⟨_, rfl⟩
  obtain ⟨Fs', eFs⟩ := hFs
  rw [eA, ← eFs] at c3
  have hsub : ∀ k, k < 80 → (∃ L, insA A r k = some (.inr L)) → (if k / 8 < r then k else k - 8) < 80 ∧ insA A r k = A (if k / 8 < r then k else k - 8) ∧ Fs' k = Fs (if k / 8 < r then k else k - 8) := by
    intro k hk ⟨L, hL⟩
    have q2 : ¬ k / 8 = r := by
      intro q2
      unfold insA at hL
      rw [if_neg (by omega), if_pos q2] at hL
      cases hL
    rw [eFs]
    unfold insA emR shU
    by_cases q1 : k / 8 < r
    · rw [if_pos q1, if_pos q1, if_neg (by omega), if_neg (by omega)]
      exact ⟨hk, rfl, rfl⟩
    · rw [if_neg q1, if_neg q1, if_neg q2, if_neg (by omega), if_pos (by omega)]
      exact ⟨by omega, rfl, rfl⟩
  have d3 : dsj h2 (insA A r) Fs' := by
    refine d.re (fun k => if k / 8 < r then k else k - 8) hsub (fun k j hk hj fk fj hkj => ?_) (c3.is5 (f1.trans f2))
    have nr : ∀ k, (∃ L, insA A r k = some (.inr L)) → ¬ k / 8 = r := by
      rintro k ⟨L, hL⟩ q2
      unfold insA at hL
      rw [if_neg (by omega), if_pos q2] at hL
      cases hL
    have := nr k fk
    have := nr j fj
    dsimp only
    split <;> split <;> omega
  rw [← mpU_0 (itI r) (insA A r)] at c3 d3
  refine ri_L44 (A := insA A r) hr 80 0 h2 (by omega) c3 d3 fun h3 c4 d4 f4 => ?_
  have e80 : ∀ q, q < 80 → mpU (itI r) 80 (insA A r) q = insS A r q := fun q hq => by
    unfold mpU insS
    rw [if_pos hq]
    rfl
  have c5 := c4.cong (A' := insS A r) (Fs' := Fs') (fun q hq => (e80 q hq).symm) (fun q hq => rfl)
  have fo5 : ∀ k, k < 80 → (∃ L, insS A r k = some (.inr L)) → ∃ L, insA A r k = some (.inr L) := fun k hk hL => by
    rw [← e80 k hk] at hL
    exact mpU_f.mp hL
  have d5 : dsj h3 (insS A r) Fs' := ⟨fun k hk L hL => d4.1 k hk L ((e80 k hk).trans hL), fun k j hk hj hkj fk fj => d4.2 k j hk hj hkj (by rw [e80 k hk]; exact fk) (by rw [e80 j hj]; exact fj)⟩
  refine K h3 bf2 vf2 ff2 Fs' c5 d5 (fun q q1 q2 q3 q4 => ?_) fun k hk hL => ?_
  · have e2 : h2 q = h q := (f1.trans f2) q q1 q2 q3 q4
    rcases f4 q with e | ⟨⟨fs, e1⟩, e3⟩
    · exact Or.inl (e.trans e2)
    · exact Or.inr ⟨⟨fs, e2.symm.trans e1⟩, e3⟩
  · obtain ⟨L, hL'⟩ := fo5 k hk hL
    obtain ⟨s1, s2, s3⟩ := hsub k hk ⟨L, hL'⟩
    exact ⟨_, s1, ⟨L, s2.symm.trans hL'⟩, s3⟩
theorem cls_rowOut {E : fs_E} {h : fs_Hp} {A : Shh} {ce fil fo va re ga od r : Nat} {st : Int32} {bf : Nat → Int32} {vf : Nat → UInt64} {ff rf : Nat → Option Nat} {oo : Nat → Int32} {Fs : Nat → List Nat} {Post : fs_Ps} (hr : r < 10) (c : clL E h A ce fil fo va re ga od st bf vf ff rf oo Fs) (d : dsj h A Fs) (K : ∀ h' bf' vf' ff' Fs', clL E h' (delS A r) ce fil fo va re ga od 0 bf' vf' ff' rf oo Fs' → dsj h' (delS A r) Fs' → rwF ce fil va fo h h' → fsb A Fs (delS A r) Fs' → Post (.inl (some (.int (nI (rowc A r))))) h') : w_CE_rowOut E h ce (nI r) Post := by
  have e8 : (nI r * 8 : Int32) = nI (r * 8) := nI_mul r 8
  have e88 : ((nI r + 1) * 8 : Int32) = nI ((r + 1) * 8) := by rw [nI_1]; exact nI_mul (r + 1) 8
  unfold w_CE_rowOut
  rw [e88, e8]
  refine ⟨c.isc, ?_⟩
  refine cls_filledFrom (A := A) c.1.1 c.2.2.2.2.1 (by omega) (by omega) (fs_ki_of ?_)
  have e9 : cfr (fun k => (A k).isSome) ((r + 1) * 8 - r * 8) (r * 8) = rowc A r := by
    rw [cfr_count, show (r + 1) * 8 - r * 8 = 8 by omega]
    rfl
  rw [e9]
  refine ⟨72 - r * 8 + 1, ?_⟩
  have c0 : clL E h (shD (r * 8) (r * 8) A) ce fil fo va re ga od st bf vf ff rf oo (shD (r * 8) (r * 8) Fs) := c.cong (fun q hq => by unfold shD; rw [if_neg (by omega)]) (fun q hq => by unfold shD; rw [if_neg (by omega)])
  refine ro_L20 (A := A) (Fs := Fs) (72 - r * 8) (r * 8) h st bf vf ff (by omega) (Nat.le_refl _) c0 fun h1 st1 bf1 vf1 ff1 c1 f1 => ⟨c1.isc, ?_⟩
  refine ⟨8 + 1, ?_⟩
  have c2 : clL E h1 (emR none (9 * 8) (9 * 8 + 0) (shD (r * 8) 72 A)) ce fil fo va re ga od st1 bf1 vf1 ff1 rf oo (emR [] (9 * 8) (9 * 8 + 0) (shD (r * 8) 72 Fs)) := c1.cong (fun q hq => by unfold emR; rw [if_neg (by omega)]) (fun q hq => by unfold emR; rw [if_neg (by omega)])
  refine er_L2z (show 9 < 10 by omega) 8 0 h1 st1 bf1 vf1 ff1 (by omega) (fun z => by cases z) c2 fun h2 bf2 vf2 ff2 c3 f2 => fs_kv_of ⟨80 + 1, ?_⟩
  have hA : ∀ q, q < 80 → emR none (9 * 8) (9 * 8 + 8) (shD (r * 8) 72 A) q = delA A r q := by
    intro q hq
    unfold emR shD delA
    by_cases q1 : q / 8 < r
    · rw [if_neg (by omega), if_neg (by omega), if_pos q1]
    · rw [if_neg q1]
      by_cases q2 : q / 8 < 9
      · rw [if_neg (by omega), if_pos (by omega), if_pos q2]
      · rw [if_pos (by omega), if_neg q2]
  have hFs : ∃ Fs', Fs' = emR [] (9 * 8) (9 * 8 + 8) (shD (r * 8) 72 Fs) := ⟨_, rfl⟩
  obtain ⟨Fs', eFs⟩ := hFs
  rw [← eFs] at c3
  replace c3 := c3.cong (A' := delA A r) (Fs' := Fs') (fun q hq => (hA q hq).symm) (fun q hq => rfl)
  have n9 : ∀ k, k < 80 → (∃ L, delA A r k = some (.inr L)) → k / 8 < r ∨ k / 8 < 9 := by
    rintro k hk ⟨L, hL⟩
    unfold delA at hL
    by_cases q1 : k / 8 < r
    · exact Or.inl q1
    · rw [if_neg q1] at hL
      by_cases q2 : k / 8 < 9
      · exact Or.inr q2
      · rw [if_neg q2] at hL
        cases hL
  have hsub : ∀ k, k < 80 → (∃ L, delA A r k = some (.inr L)) → (if k / 8 < r then k else k + 8) < 80 ∧ delA A r k = A (if k / 8 < r then k else k + 8) ∧ Fs' k = Fs (if k / 8 < r then k else k + 8) := by
    intro k hk hL
    have q2 := n9 k hk hL
    rw [eFs]
    unfold delA emR shD
    by_cases q1 : k / 8 < r
    · rw [if_pos q1, if_pos q1, if_neg (by omega), if_neg (by omega)]
      exact ⟨hk, rfl, rfl⟩
    · rw [if_neg q1, if_neg q1, if_pos (by omega), if_neg (by omega), if_pos (by omega)]
      exact ⟨by omega, rfl, rfl⟩
  have d3 : dsj h2 (delA A r) Fs' := by
    refine d.re (fun k => if k / 8 < r then k else k + 8) hsub (fun k j hk hj fk fj hkj => ?_) (c3.is5 (f1.trans f2))
    dsimp only
    split <;> split <;> omega
  rw [← mpU_0 (itO r) (delA A r)] at c3 d3
  refine ro_L49 (A := delA A r) hr 80 0 h2 (by omega) c3 d3 fun h3 c4 d4 f4 => ?_
  have e80 : ∀ q, q < 80 → mpU (itO r) 80 (delA A r) q = delS A r q := fun q hq => by
    unfold mpU delS
    rw [if_pos hq]
    rfl
  have c5 := c4.cong (A' := delS A r) (Fs' := Fs') (fun q hq => (e80 q hq).symm) (fun q hq => rfl)
  have fo5 : ∀ k, k < 80 → (∃ L, delS A r k = some (.inr L)) → ∃ L, delA A r k = some (.inr L) := fun k hk hL => by
    rw [← e80 k hk] at hL
    exact mpU_f.mp hL
  have d5 : dsj h3 (delS A r) Fs' := ⟨fun k hk L hL => d4.1 k hk L ((e80 k hk).trans hL), fun k j hk hj hkj fk fj => d4.2 k j hk hj hkj (by rw [e80 k hk]; exact fk) (by rw [e80 j hj]; exact fj)⟩
  refine K h3 bf2 vf2 ff2 Fs' c5 d5 (fun q q1 q2 q3 q4 => ?_) fun k hk hL => ?_
  · have e2 : h2 q = h q := (f1.trans f2) q q1 q2 q3 q4
    rcases f4 q with e | ⟨⟨fs, e1⟩, e3⟩
    · exact Or.inl (e.trans e2)
    · exact Or.inr ⟨⟨fs, e2.symm.trans e1⟩, e3⟩
  · obtain ⟨L, hL'⟩ := fo5 k hk hL
    obtain ⟨s1, s2, s3⟩ := hsub k hk ⟨L, hL'⟩
    exact ⟨_, s1, ⟨L, s2.symm.trans hL'⟩, s3⟩
/-! Pure: the class's whole state, and what lies beside it. -/
/-- what kind of thing -/
def knd (o : Option va_E) : Nat := match o with | none => 0 | some (.inr (c, _)) => 10 + c | some (.inl (_, _, .inl _)) => 1 | some (.inl (_, _, .inr (.inl _))) => 2 | some (.inl (_, _, .inr (.inr (.inl _)))) => 3 | some (.inl (_, _, .inr (.inr (.inr (.inl _))))) => 4 | some (.inl (_, _, .inr (.inr (.inr (.inr _))))) => 5
theorem knd_o (c : Nat) (fs : List Value) : knd (some (.inr (c, fs))) = 10 + c := rfl
theorem knd_i (c : ClassId) (n : Nat) (f : Nat → Int32) : knd (some (.inl (c, n, .inl f))) = 1 := rfl
theorem knd_d (c : ClassId) (n : Nat) (f : Nat → UInt64) : knd (some (.inl (c, n, .inr (.inr (.inr (.inl f)))))) = 4 := rfl
theorem knd_r (c : ClassId) (n : Nat) (f : Nat → Option Nat) : knd (some (.inl (c, n, .inr (.inr (.inr (.inr f)))))) = 5 := rfl
theorem knd_no {o : Option va_E} (h : knd o ≠ 0) : o ≠ none := fun z => h (by rw [z]; rfl)
theorem knd_n5 {o : Option va_E} (h : knd o ≠ 15) : ∀ fs, o ≠ some (.inr (5, fs)) := fun fs z => h (by rw [z]; rfl)
/-- the cells' places -/
def ccp (ce fil fo va re ga od : Nat) (rf : Nat → Option Nat) (A : Shh) (Fs : Nat → List Nat) (q : Nat) : Prop := q = ce ∨ q = fil ∨ q = fo ∨ q = va ∨ q = re ∨ q = ga ∨ q = od ∨ (∃ k, k < 80 ∧ rf k = some q) ∨ ∃ k, k < 80 ∧ (∃ L, A k = some (.inr L)) ∧ q ∈ Fs k
/-- the other places -/
def cfp (x ln ch sb v q : Nat) : Prop := q = x ∨ q = ln ∨ q = ch ∨ q = sb ∨ q = v
section
variable {E : fs_E} {U : Nat → Prop} {h h' : fs_Hp} {x ln ch ce fil fo va re ga od sb v cap n : Nat} {A : Shh} {f : Nat → Int32} {t : List Nat} {er x2 x3 st : Int32} {bf : Nat → Int32} {vf : Nat → UInt64} {ff rf : Nat → Option Nat} {oo : Nat → Int32} {Fs : Nat → List Nat}
theorem ccp_R {k q : Nat} (hk : k < 80) (e : rf k = some q) : ccp ce fil fo va re ga od rf A Fs q := Or.inr (Or.inr (Or.inr (Or.inr (Or.inr (Or.inr (Or.inr (Or.inl ⟨k, hk, e⟩)))))))
theorem ccp_F {k q : Nat} (hk : k < 80) (e : ∃ L, A k = some (.inr L)) (hq : q ∈ Fs k) : ccp ce fil fo va re ga od rf A Fs q := Or.inr (Or.inr (Or.inr (Or.inr (Or.inr (Or.inr (Or.inr (Or.inr ⟨k, hk, e, hq⟩)))))))
theorem ccp_kind (c : clL E h A ce fil fo va re ga od st bf vf ff rf oo Fs) {q : Nat} (hq : ccp ce fil fo va re ga od rf A Fs q) : (q = fil ∧ knd (h q) = 1) ∨ (q = od ∧ knd (h q) = 1) ∨ knd (h q) = 12 ∨ knd (h q) = 4 ∨ knd (h q) = 5 ∨ knd (h q) = 13 ∨ (14 ≤ knd (h q) ∧ knd (h q) ≤ 19) := by
  obtain ⟨⟨⟨c1, c2, c3, c4, c5⟩, ⟨gf, g⟩, a3, a4, a5, a6, a7⟩, ht, hj, ⟨P, hr⟩, hcel, hsep⟩ := c
  unfold gaF at g
  rcases hq with rfl | rfl | rfl | rfl | rfl | rfl | rfl | ⟨k, hk, e⟩ | ⟨k, hk, ⟨L, hL⟩, e⟩
  · rw [c1, knd_o]; omega
  · rw [c2, knd_i]; exact Or.inl ⟨rfl, rfl⟩
  · rw [a3, knd_r]; omega
  · rw [c3, knd_d]; omega
  · rw [a4, knd_r]; omega
  · rw [g, knd_d]; omega
  · rw [a5, knd_i]; exact Or.inr (Or.inl ⟨rfl, rfl⟩)
  · obtain ⟨s, s1, lo, hi, s2, _⟩ := hr k hk
    rw [e] at s1
    cases s1
    rw [s2, knd_o]; omega
  · obtain ⟨r, r1, r2⟩ := (ht k hk).1 L hL
    rcases rp_cls 41 r2 q e with ⟨c, fs, w1, w2, w3⟩ | ⟨m, g, w3⟩
    · rw [w3, knd_o]; omega
    · unfold tr_in at w3
      rw [w3, knd_r]; omega
/-- no place of the cells -/
theorem ccp_far (c : clL E h A ce fil fo va re ga od st bf vf ff rf oo Fs) {q : Nat} (hq : knd (h q) = 10 ∨ knd (h q) = 11 ∨ knd (h q) = 21 ∨ knd (h q) = 0 ∨ (knd (h q) = 1 ∧ q ≠ fil ∧ q ≠ od)) : ¬ ccp ce fil fo va re ga od rf A Fs q := by
  intro z
  have := ccp_kind c z
  omega
theorem clL.kp (c : clL E h A ce fil fo va re ga od st bf vf ff rf oo Fs) (e : ∀ q, ccp ce fil fo va re ga od rf A Fs q → h' q = h q) : clL E h' A ce fil fo va re ga od st bf vf ff rf oo Fs := by
  obtain ⟨⟨⟨c1, c2, c3, c4, c5⟩, ⟨gf, g⟩, a3, a4, a5, a6, a7⟩, ht, hj, ⟨P, hr⟩, hcel, hsep⟩ := c
  refine ⟨⟨⟨(e ce (Or.inl rfl)).trans c1, (e fil (Or.inr (Or.inl rfl))).trans c2, (e va (Or.inr (Or.inr (Or.inr (Or.inl rfl))))).trans c3, c4, c5⟩, ⟨gf, (e ga (Or.inr (Or.inr (Or.inr (Or.inr (Or.inr (Or.inl rfl))))))).trans g⟩, (e fo (Or.inr (Or.inr (Or.inl rfl)))).trans a3, (e re (Or.inr (Or.inr (Or.inr (Or.inr (Or.inl rfl)))))).trans a4, (e od (Or.inr (Or.inr (Or.inr (Or.inr (Or.inr (Or.inr (Or.inl rfl)))))))).trans a5, a6, a7⟩, fun k hk => ⟨fun L hL => ?_, (ht k hk).2⟩, hj, ⟨P, fun k hk => ?_⟩, hcel, hsep⟩
  · obtain ⟨r, r1, r2⟩ := (ht k hk).1 L hL
    exact ⟨r, r1, r2.kept 41 fun q hq => e q (ccp_F hk ⟨L, hL⟩ hq)⟩
  · obtain ⟨s, s1, s2⟩ := hr k hk
    exact ⟨s, s1, s2.kept (e s (ccp_R hk s1))⟩
theorem dsj.kp (d : dsj h A Fs) (e : ∀ q, ccp ce fil fo va re ga od rf A Fs q → h' q = h q) : dsj h' A Fs := ⟨d.1, fun k j hk hj hkj fk fj q q1 q2 fs => by
  rw [e q (ccp_F hk fk q1)]
  exact d.2 k j hk hj hkj fk fj q q1 q2 fs⟩
theorem stld.kp (s : stld A h rf vf) (e : ∀ q, ccp ce fil fo va re ga od rf A Fs q → h' q = h q) : stld A h' rf vf := ⟨fun k hk => by
  obtain ⟨s, s1, s2⟩ := s.1 k hk
  exact ⟨s, s1, s2.kept (e s (ccp_R hk s1))⟩, s.2⟩
theorem sbR.kp (s : sbR E h sb v cap t) (e : h' sb = h sb) (e' : h' v = h v) : sbR E h' sb v cap t := by
  obtain ⟨f, x2, s1, s2, s3⟩ := s
  exact ⟨f, x2, e.trans s1, e'.trans s2, s3⟩
/-- the class's state; U: places that are not its own -/
def CIx (E : fs_E) (U : Nat → Prop) (h : fs_Hp) (x : Nat) (A : Shh) (f : Nat → Int32) (n : Nat) (er : Int32) (ln ch ce fil fo va re ga od sb v cap : Nat) (t : List Nat) (x2 x3 st : Int32) (bf : Nat → Int32) (vf : Nat → UInt64) (ff rf : Nat → Option Nat) (oo : Nat → Int32) (Fs : Nat → List Nat) : Prop :=
  (h x = some (.inr (0, [.ref ln, .ref ce, .ref sb, .int er])) ∧ h ln = some (.inr (1, [.ref ch, .int (nI n), .int x2, .int x3])) ∧ h ch = some (.inl (E.1.2 4, 40, .inl f)) ∧ n ≤ 40 ∧ ∀ i, i < n → ∃ c, c < 128 ∧ f i = nI c) ∧
  clL E h A ce fil fo va re ga od st bf vf ff rf oo Fs ∧ dsj h A Fs ∧ (st = 0 ∨ (st = 1 ∧ stld A h rf vf)) ∧ (sbR E h sb v cap t ∧ 11 ≤ cap) ∧ (ch ≠ fil ∧ ch ≠ od ∧ ch ≠ v ∧ fil ≠ v ∧ od ≠ v) ∧
  ∀ q, U q → h q ≠ none ∧ (∀ fs, h q ≠ some (.inr (5, fs))) ∧ ¬ cfp x ln ch sb v q ∧ ¬ ccp ce fil fo va re ga od rf A Fs q
def CI (E : fs_E) (U : Nat → Prop) (h : fs_Hp) (x : Nat) (A : Shh) (f : Nat → Int32) (n : Nat) (er : Int32) : Prop := ∃ (ln ch ce fil fo va re ga od sb v cap : Nat) (t : List Nat) (x2 x3 st : Int32) (bf : Nat → Int32) (vf : Nat → UInt64) (ff rf : Nat → Option Nat) (oo : Nat → Int32) (Fs : Nat → List Nat), CIx E U h x A f n er ln ch ce fil fo va re ga od sb v cap t x2 x3 st bf vf ff rf oo Fs
theorem CIx.ci (c : CIx E U h x A f n er ln ch ce fil fo va re ga od sb v cap t x2 x3 st bf vf ff rf oo Fs) : CI E U h x A f n er := ⟨ln, ch, ce, fil, fo, va, re, ga, od, sb, v, cap, t, x2, x3, st, bf, vf, ff, rf, oo, Fs, c⟩
/-- what is not the class's stays -/
def fU (U : Nat → Prop) (h h' : fs_Hp) : Prop := ∀ q, U q → h' q = h q
theorem fU.rf : fU U h h := fun _ _ => rfl
theorem fU.trans {h2 : fs_Hp} (a : fU U h h') (b : fU U h' h2) : fU U h h2 := fun q hq => (b q hq).trans (a q hq)
theorem CIx.knds (c : CIx E U h x A f n er ln ch ce fil fo va re ga od sb v cap t x2 x3 st bf vf ff rf oo Fs) : knd (h x) = 10 ∧ knd (h ln) = 11 ∧ knd (h ch) = 1 ∧ knd (h sb) = 21 ∧ knd (h v) = 1 := by
  obtain ⟨⟨b1, b2, b3, _⟩, _, _, _, ⟨⟨g, y, s1, s2, _⟩, _⟩, _⟩ := c
  rw [b1, b2, b3, s1, s2]
  exact ⟨rfl, rfl, rfl, rfl, rfl⟩
theorem CIx.far (c : CIx E U h x A f n er ln ch ce fil fo va re ga od sb v cap t x2 x3 st bf vf ff rf oo Fs) {q : Nat} (hq : cfp x ln ch sb v q) : ¬ ccp ce fil fo va re ga od rf A Fs q := by
  obtain ⟨k1, k2, k3, k4, k5⟩ := c.knds
  obtain ⟨n1, n2, n3, n4, n5⟩ := c.2.2.2.2.2.1
  rcases hq with rfl | rfl | rfl | rfl | rfl
  · exact ccp_far c.2.1 (Or.inl k1)
  · exact ccp_far c.2.1 (Or.inr (Or.inl k2))
  · exact ccp_far c.2.1 (Or.inr (Or.inr (Or.inr (Or.inr ⟨k3, n1, n2⟩))))
  · exact ccp_far c.2.1 (Or.inr (Or.inr (Or.inl k4)))
  · exact ccp_far c.2.1 (Or.inr (Or.inr (Or.inr (Or.inr ⟨k5, Ne.symm n4, Ne.symm n5⟩))))
theorem ccp_some (c : clL E h A ce fil fo va re ga od st bf vf ff rf oo Fs) {q : Nat} (hq : ccp ce fil fo va re ga od rf A Fs q) : h q ≠ none := by
  have := ccp_kind c hq
  exact knd_no (by omega)
theorem CIx.nnn (c : CIx E U h x A f n er ln ch ce fil fo va re ga od sb v cap t x2 x3 st bf vf ff rf oo Fs) {q : Nat} (hq : cfp x ln ch sb v q) : h q ≠ none := by
  obtain ⟨k1, k2, k3, k4, k5⟩ := c.knds
  rcases hq with rfl | rfl | rfl | rfl | rfl <;> exact knd_no (by omega)
/-- all its places stay -/
theorem CIx.kp (c : CIx E U h x A f n er ln ch ce fil fo va re ga od sb v cap t x2 x3 st bf vf ff rf oo Fs) (e1 : ∀ q, cfp x ln ch sb v q → h' q = h q) (e2 : ∀ q, ccp ce fil fo va re ga od rf A Fs q → h' q = h q) (e3 : ∀ q, U q → h' q ≠ none ∧ ∀ fs, h' q ≠ some (.inr (5, fs))) : CIx E U h' x A f n er ln ch ce fil fo va re ga od sb v cap t x2 x3 st bf vf ff rf oo Fs := by
  obtain ⟨⟨b1, b2, b3, b4⟩, c1, c2, c3, ⟨c4, c5⟩, c6, c7⟩ := c
  refine ⟨⟨(e1 x (Or.inl rfl)).trans b1, (e1 ln (Or.inr (Or.inl rfl))).trans b2, (e1 ch (Or.inr (Or.inr (Or.inl rfl)))).trans b3, b4⟩, c1.kp e2, c2.kp e2, ?_, ⟨c4.kp (e1 sb (Or.inr (Or.inr (Or.inr (Or.inl rfl))))) (e1 v (Or.inr (Or.inr (Or.inr (Or.inr rfl))))), c5⟩, c6, fun q hq => ⟨(e3 q hq).1, (e3 q hq).2, (c7 q hq).2.2⟩⟩
  rcases c3 with z | ⟨z1, z2⟩
  · exact Or.inl z
  · exact Or.inr ⟨z1, z2.kp e2⟩
/-- something else has changed -/
theorem CI.kept (c : CI E U h x A f n er) (hx : ∀ q, ¬ U q → h' q = h q) (hs : ∀ q, U q → h' q ≠ none ∧ ∀ fs, h' q ≠ some (.inr (5, fs))) : CI E U h' x A f n er := by
  obtain ⟨ln, ch, ce, fil, fo, va, re, ga, od, sb, v, cap, t, x2, x3, st, bf, vf, ff, rf, oo, Fs, c⟩ := c
  exact (c.kp (fun q hq => hx q fun z => (c.2.2.2.2.2.2 q z).2.2.1 hq) (fun q hq => hx q fun z => (c.2.2.2.2.2.2 q z).2.2.2 hq) hs).ci
/-- something new lies there -/
theorem CIx.byX (c : CIx E U h x A f n er ln ch ce fil fo va re ga od sb v cap t x2 x3 st bf vf ff rf oo Fs) (e : ext h h') : CIx E U h' x A f n er ln ch ce fil fo va re ga od sb v cap t x2 x3 st bf vf ff rf oo Fs ∧ fU U h h' := by
  have k : fU U h h' := fun q hq => e q (c.2.2.2.2.2.2 q hq).1
  refine ⟨c.kp (fun q hq => e q (c.nnn hq)) (fun q hq => e q (ccp_some c.2.1 hq)) fun q hq => ?_, k⟩
  rw [k q hq]
  exact ⟨(c.2.2.2.2.2.2 q hq).1, (c.2.2.2.2.2.2 q hq).2.1⟩
/-- the cells have changed -/
theorem CIx.cells (c : CIx E U h x A f n er ln ch ce fil fo va re ga od sb v cap t x2 x3 st bf vf ff rf oo Fs) {A' : Shh} {st' : Int32} {bf' : Nat → Int32} {vf' : Nat → UInt64} {ff' : Nat → Option Nat} {oo' : Nat → Int32} {Fs' : Nat → List Nat} (c' : clL E h' A' ce fil fo va re ga od st' bf' vf' ff' rf oo' Fs') (d' : dsj h' A' Fs') (s' : st' = 0 ∨ (st' = 1 ∧ stld A' h' rf vf')) (fr : ∀ q, q ≠ ce → q ≠ fil → q ≠ va → q ≠ fo → q ≠ od → q ≠ ga → (∀ k, k < 80 → rf k ≠ some q) → h q ≠ none → h' q = h q ∨ ∃ fs, h q = some (.inr (5, fs))) (hF : ∀ k, k < 80 → (∃ L, A' k = some (.inr L)) → ∀ q ∈ Fs' k, ¬ U q) : CIx E U h' x A' f n er ln ch ce fil fo va re ga od sb v cap t x2 x3 st' bf' vf' ff' rf oo' Fs' ∧ fU U h h' := by
  have keep : ∀ q, ¬ ccp ce fil fo va re ga od rf A Fs q → h q ≠ none → (∀ fs, h q ≠ some (.inr (5, fs))) → h' q = h q := by
    intro q hq hn h5
    rcases fr q (fun z => hq (Or.inl z)) (fun z => hq (Or.inr (Or.inl z))) (fun z => hq (Or.inr (Or.inr (Or.inr (Or.inl z))))) (fun z => hq (Or.inr (Or.inr (Or.inl z)))) (fun z => hq (Or.inr (Or.inr (Or.inr (Or.inr (Or.inr (Or.inr (Or.inl z)))))))) (fun z => hq (Or.inr (Or.inr (Or.inr (Or.inr (Or.inr (Or.inl z))))))) (fun k hk z => hq (ccp_R hk z)) hn with e | ⟨fs, e⟩
    · exact e
    · exact absurd e (h5 fs)
  obtain ⟨k1, k2, k3, k4, k5⟩ := c.knds
  have e1 : ∀ q, cfp x ln ch sb v q → h' q = h q := fun q hq => keep q (c.far hq) (c.nnn hq) (by rcases hq with rfl | rfl | rfl | rfl | rfl <;> exact knd_n5 (by omega))
  have eU : fU U h h' := fun q hq => keep q (c.2.2.2.2.2.2 q hq).2.2.2 (c.2.2.2.2.2.2 q hq).1 (c.2.2.2.2.2.2 q hq).2.1
  obtain ⟨⟨b1, b2, b3, b4⟩, c1, c2, c3, ⟨c4, c5⟩, c6, c7⟩ := c
  refine ⟨⟨⟨(e1 x (Or.inl rfl)).trans b1, (e1 ln (Or.inr (Or.inl rfl))).trans b2, (e1 ch (Or.inr (Or.inr (Or.inl rfl)))).trans b3, b4⟩, c', d', s', ⟨c4.kp (e1 sb (Or.inr (Or.inr (Or.inr (Or.inl rfl))))) (e1 v (Or.inr (Or.inr (Or.inr (Or.inr rfl))))), c5⟩, c6, fun q hq => ?_⟩, eU⟩
  rw [eU q hq]
  obtain ⟨u1, u2, u3, u4⟩ := c7 q hq
  refine ⟨u1, u2, u3, ?_⟩
  rintro (z | z | z | z | z | z | z | ⟨k, hk, z⟩ | ⟨k, hk, z1, z2⟩)
  · exact u4 (Or.inl z)
  · exact u4 (Or.inr (Or.inl z))
  · exact u4 (Or.inr (Or.inr (Or.inl z)))
  · exact u4 (Or.inr (Or.inr (Or.inr (Or.inl z))))
  · exact u4 (Or.inr (Or.inr (Or.inr (Or.inr (Or.inl z)))))
  · exact u4 (Or.inr (Or.inr (Or.inr (Or.inr (Or.inr (Or.inl z))))))
  · exact u4 (Or.inr (Or.inr (Or.inr (Or.inr (Or.inr (Or.inr (Or.inl z)))))))
  · exact u4 (ccp_R hk z)
  · exact hF k hk z1 q z2 hq
/-- the line has changed, or the object itself -/
theorem CIx.line (c : CIx E U h x A f n er ln ch ce fil fo va re ga od sb v cap t x2 x3 st bf vf ff rf oo Fs) {f' : Nat → Int32} {n' : Nat} {er' y2 y3 : Int32} (e1 : h' x = some (.inr (0, [.ref ln, .ref ce, .ref sb, .int er']))) (e2 : h' ln = some (.inr (1, [.ref ch, .int (nI n'), .int y2, .int y3]))) (e3 : h' ch = some (.inl (E.1.2 4, 40, .inl f'))) (hn : n' ≤ 40) (hf : ∀ i, i < n' → ∃ c, c < 128 ∧ f' i = nI c) (fr : ∀ q, q ≠ x → q ≠ ln → q ≠ ch → h q ≠ none → h' q = h q) : CIx E U h' x A f' n' er' ln ch ce fil fo va re ga od sb v cap t y2 y3 st bf vf ff rf oo Fs ∧ fU U h h' := by
  obtain ⟨k1, k2, k3, k4, k5⟩ := c.knds
  have eC : ∀ q, ccp ce fil fo va re ga od rf A Fs q → h' q = h q := fun q hq => fr q (fun z => c.far (Or.inl z) hq) (fun z => c.far (Or.inr (Or.inl z)) hq) (fun z => c.far (Or.inr (Or.inr (Or.inl z))) hq) (ccp_some c.2.1 hq)
  have eU : fU U h h' := fun q hq => fr q (fun z => (c.2.2.2.2.2.2 q hq).2.2.1 (Or.inl z)) (fun z => (c.2.2.2.2.2.2 q hq).2.2.1 (Or.inr (Or.inl z))) (fun z => (c.2.2.2.2.2.2 q hq).2.2.1 (Or.inr (Or.inr (Or.inl z)))) (c.2.2.2.2.2.2 q hq).1
  have s1 : h' sb = h sb := fr sb (fun z => by rw [z] at k4; omega) (fun z => by rw [z] at k4; omega) (fun z => by rw [z] at k4; omega) (knd_no (by omega))
  have s2 : h' v = h v := fr v (fun z => by rw [z] at k5; omega) (fun z => by rw [z] at k5; omega) (Ne.symm c.2.2.2.2.2.1.2.2.1) (knd_no (by omega))
  obtain ⟨_, c1, c2, c3, ⟨c4, c5⟩, c6, c7⟩ := c
  refine ⟨⟨⟨e1, e2, e3, hn, hf⟩, c1.kp eC, c2.kp eC, ?_, ⟨c4.kp s1 s2, c5⟩, c6, fun q hq => ?_⟩, eU⟩
  · rcases c3 with z | ⟨z1, z2⟩
    · exact Or.inl z
    · exact Or.inr ⟨z1, z2.kp eC⟩
  · rw [eU q hq]
    exact c7 q hq
/-- the builder has changed -/
theorem CIx.text (c : CIx E U h x A f n er ln ch ce fil fo va re ga od sb v cap t x2 x3 st bf vf ff rf oo Fs) {v' cap' : Nat} {t' : List Nat} (s : sbR E h' sb v' cap' t') (hc : 11 ≤ cap') (hv : v' = v ∨ h v' = none) (fr : gS sb v h h') : CIx E U h' x A f n er ln ch ce fil fo va re ga od sb v' cap' t' x2 x3 st bf vf ff rf oo Fs ∧ fU U h h' := by
  obtain ⟨k1, k2, k3, k4, k5⟩ := c.knds
  have eC : ∀ q, ccp ce fil fo va re ga od rf A Fs q → h' q = h q := fun q hq => fr q (fun z => c.far (Or.inr (Or.inr (Or.inr (Or.inl z)))) hq) (fun z => c.far (Or.inr (Or.inr (Or.inr (Or.inr z)))) hq) (ccp_some c.2.1 hq)
  have eU : fU U h h' := fun q hq => fr q (fun z => (c.2.2.2.2.2.2 q hq).2.2.1 (Or.inr (Or.inr (Or.inr (Or.inl z))))) (fun z => (c.2.2.2.2.2.2 q hq).2.2.1 (Or.inr (Or.inr (Or.inr (Or.inr z))))) (c.2.2.2.2.2.2 q hq).1
  have q1 : h' x = h x := fr x (fun z => by rw [z] at k1; omega) (fun z => by rw [z] at k1; omega) (knd_no (by omega))
  have q2 : h' ln = h ln := fr ln (fun z => by rw [z] at k2; omega) (fun z => by rw [z] at k2; omega) (knd_no (by omega))
  have q3 : h' ch = h ch := fr ch (fun z => by rw [z] at k3; omega) c.2.2.2.2.2.1.2.2.1 (knd_no (by omega))
  have ne : ∀ q, h q ≠ none → q ≠ v → q ≠ v' := fun q hq qv z => by
    rcases hv with w | w
    · exact qv (z.trans w)
    · exact hq (by rw [z]; exact w)
  have nf : h fil ≠ none := ccp_some c.2.1 (Or.inr (Or.inl rfl))
  have no : h od ≠ none := ccp_some c.2.1 (Or.inr (Or.inr (Or.inr (Or.inr (Or.inr (Or.inr (Or.inl rfl)))))))
  have nc : h ch ≠ none := knd_no (by omega)
  obtain ⟨⟨b1, b2, b3, b4⟩, c1, c2, c3, _, ⟨m1, m2, m3, m4, m5⟩, c7⟩ := c
  refine ⟨⟨⟨q1.trans b1, q2.trans b2, q3.trans b3, b4⟩, c1.kp eC, c2.kp eC, ?_, ⟨s, hc⟩, ⟨m1, m2, ne ch nc m3, ne fil nf m4, ne od no m5⟩, fun q hq => ?_⟩, eU⟩
  · rcases c3 with z | ⟨z1, z2⟩
    · exact Or.inl z
    · exact Or.inr ⟨z1, z2.kp eC⟩
  · rw [eU q hq]
    obtain ⟨u1, u2, u3, u4⟩ := c7 q hq
    refine ⟨u1, u2, ?_, u4⟩
    rintro (z | z | z | z | z)
    · exact u3 (Or.inl z)
    · exact u3 (Or.inr (Or.inl z))
    · exact u3 (Or.inr (Or.inr (Or.inl z)))
    · exact u3 (Or.inr (Or.inr (Or.inr (Or.inl z))))
    · exact ne q u1 (fun w => u3 (Or.inr (Or.inr (Or.inr (Or.inr w))))) z
end
/-! Pure: the class's face: type, errorAt, put, erase, insert, delete. -/
theorem chr128 : ∀ c, c < 128 → (Int32.toUInt32 (nI c) % 65536).toInt32 = nI c ∧ vp_nar .char (nI c) = nI c := by decide
section
variable {E : fs_E} {U : Nat → Prop} {h h' : fs_Hp} {x ln ch ce fil fo va re ga od sb v cap n : Nat} {A : Shh} {f : Nat → Int32} {t : List Nat} {er x2 x3 st : Int32} {bf : Nat → Int32} {vf : Nat → UInt64} {ff rf : Nat → Option Nat} {oo : Nat → Int32} {Fs : Nat → List Nat} {mc ms : Nat} {Post : fs_Ps}
theorem sh_cell {c r : Int32} (hm : 1 ≤ mc) (hs : 6 ≤ ms) (K1 : p_MO_out c r = 1 → Post (.inr "java/lang/IndexOutOfBoundsException") h) (K0 : ∀ C W : Nat, C < 8 → W < 10 → c = nI C → r = nI W → Post (.inl (some (.int (nI (W * 8 + C))))) h) : w_SH_cellAt mc ms E h c r Post := by
  unfold w_SH_cellAt
  refine is_in (fs_ki_of ?_)
  rcases out_or c r with e | e
  · rw [e, if_pos rfl, if_neg (show ¬ (1 : Int32) = 0 by decide)]
    obtain ⟨C, W, hC, hW, eC, eW⟩ := out_dec e
    have := K0 C W hC hW eC eW
    rw [eC, eW, (cell80 hC hW).1]
    exact this
  · rw [e, if_neg (show ¬ (1 : Int32) = 0 by decide), if_pos rfl]
    exact ⟨hm, hs, K1 e⟩
theorem sh_fcell (c : CIx E U h x A f n er ln ch ce fil fo va re ga od sb v cap t x2 x3 st bf vf ff rf oo Fs) {y1 y2 : Int32} (hm : 2 ≤ mc) (hs : 12 ≤ ms) (K1 : p_MO_out y1 y2 = 1 → Post (.inr "java/lang/IndexOutOfBoundsException") h) (K2 : ∀ C W : Nat, C < 8 → W < 10 → y1 = nI C → y2 = nI W → A (W * 8 + C) = none → Post (.inr "java/util/NoSuchElementException") h) (K0 : ∀ C W : Nat, C < 8 → W < 10 → y1 = nI C → y2 = nI W → A (W * 8 + C) ≠ none → Post (.inl (some (.int (nI (W * 8 + C))))) h) : w_SH_filledCellAt mc ms E h x y1 y2 Post := by
  refine ⟨1, 6, by omega, by omega, sh_cell (Nat.le_refl 1) (Nat.le_refl 6) K1 fun C W hC hW e1 e2 => fs_ki_of ?_⟩
  obtain ⟨i1, i2, i3⟩ := cell80 hC hW
  refine fs_gr_of c.1.1 rfl (fs_gr_of c.2.1.1.1.1 rfl (fs_ai_of c.2.1.1.1.2.1 i2 ?_))
  rw [i3, c.2.1.2.2.2.2.1.b (by omega)]
  match e : A (W * 8 + C) with
  | none =>
    rw [if_neg (by decide), if_pos rfl]
    exact ⟨by omega, by omega, K2 C W hC hW e1 e2 e⟩
  | some y =>
    rw [if_pos rfl, if_neg (show ¬ (1 : Int32) = 0 by decide)]
    exact K0 C W hC hW e1 e2 (by rw [e]; exact fun z => by cases z)
theorem sh_type (c : CI E U h x A f n er) {y : Int32} (hm : 1 ≤ mc) (hs : 6 ≤ ms) (K1 : (y < 0 ∨ ¬ y ≤ 127) → Post (.inr "java/lang/IllegalArgumentException") h) (K2 : ∀ k : Nat, k < 128 → y = nI k → n = 40 → Post (.inr "java/lang/IllegalStateException") h) (K0 : ∀ k : Nat, k < 128 → y = nI k → n < 40 → ∀ h', CI E U h' x A (upd f n (nI k)) (n + 1) er → fU U h h' → Post (.inl (some (.int (nI (n + 1))))) h') : w_SH_type mc ms E h x y Post := by
  obtain ⟨ln, ch, ce, fil, fo, va, re, ga, od, sb, v, cap, t, x2, x3, st, bf, vf, ff, rf, oo, Fs, c⟩ := c
  obtain ⟨b1, b2, b3, b4, b5⟩ := c.1
  obtain ⟨k1, k2, k3, k4, k5⟩ := c.knds
  unfold w_SH_type
  by_cases h1 : y < 0
  · rw [if_pos h1]
    exact ⟨hm, hs, K1 (Or.inl h1)⟩
  · rw [if_neg h1]
    by_cases h2 : y ≤ 127
    · rw [if_pos h2]
      obtain ⟨k, hk, ek⟩ := nI_of2 (M := 127) (n := 127) (by decide) h1 h2
      have hk8 : k < 128 := by omega
      refine fs_gr_of b1 rfl (fs_gi_of b2 rfl ?_)
      by_cases hn : n < 40
      · rw [if_pos (show nI n < (40 : Int32) from nI_lt (b := 40) hn (by decide))]
        refine fs_gr_of b1 rfl ⟨fs_isc_of b2, ?_⟩
        rw [ek, (chr128 k hk8).1]
        have n1 : ln ≠ ch := fun z => by rw [z] at k2; omega
        have n2 : x ≠ ch := fun z => by rw [z] at k1; omega
        have n3 : x ≠ ln := fun z => by rw [z] at k1; omega
        refine fs_gr_of b2 rfl (fs_gi_of b2 rfl (fs_si_of b3 (nI_in hn (by decide)) ?_))
        rw [nI_clamp (by omega), (chr128 k hk8).2]
        refine fs_gi_of (fs_up_at n1 b2) rfl (fs_pw_of (fs_up_at n1 b2) (Nat.le_of_ble_eq_true rfl) (fs_kv_of ?_))
        refine fs_gr_of (fs_up_at n3 (fs_up_at n2 b1)) rfl (fs_gi_of fs_up_self rfl ?_)
        rw [nI_1]
        have key := c.line (h' := fs_up (fs_up h ch (.inl (E.1.2 4, 40, .inl (upd f n (nI k))))) ln (.inr (1, [.ref ch, .int (nI (n + 1)), .int x2, .int x3]))) (f' := upd f n (nI k)) (n' := n + 1) (er' := er) (y2 := x2) (y3 := x3) (fs_up_at n3 (fs_up_at n2 b1)) fs_up_self (fs_up_at (Ne.symm n1) fs_up_self) (by omega) (fun i hi => by
          rw [upd_at]
          split
          · exact ⟨k, hk8, rfl⟩
          · exact b5 i (by omega)) (fun q q1 q2 q3 _ => by rw [fs_up_ne q2, fs_up_ne q3])
        exact K0 k hk8 ek hn _ key.1.ci key.2
      · rw [if_neg (show ¬ nI n < (40 : Int32) from nI_nlt (b := 40) (by omega) (by omega))]
        exact ⟨hm, hs, K2 k hk8 ek (by omega)⟩
    · rw [if_neg h2]
      exact ⟨hm, hs, K1 (Or.inr h2)⟩
theorem sh_errorAt (c : CI E U h x A f n er) (K : Post (.inl (some (.int er))) h) : w_SH_errorAt E h x Post := by
  obtain ⟨ln, ch, ce, fil, fo, va, re, ga, od, sb, v, cap, t, x2, x3, st, bf, vf, ff, rf, oo, Fs, c⟩ := c
  exact fs_gi_of c.1.1 rfl K
/-- another content, no formula -/
theorem dsj.setN (d : dsj h A Fs) {k0 : Nat} {y : Cl} {F : List Nat} (hy : ∀ L, y ≠ some (.inr L)) (h5 : ∀ q fs, h' q = some (.inr (5, fs)) → ∃ fs', h q = some (.inr (5, fs'))) : dsj h' (fun j => if j = k0 then y else A j) (fun j => if j = k0 then F else Fs j) := by
  have ne : ∀ k, (∃ L, (if k = k0 then y else A k) = some (.inr L)) → k ≠ k0 := fun k ⟨L, hL⟩ z => by
    rw [if_pos z] at hL
    exact hy L hL
  refine d.re (fun k => k) (fun k hk hL => ?_) (fun k j _ _ _ _ hkj => hkj) h5
  have := ne k hL
  dsimp only
  rw [if_neg this, if_neg this]
  exact ⟨hk, rfl, rfl⟩
/-- a formula -/
theorem dsj.setF (d : dsj h A Fs) {k0 : Nat} {L0 : List It} {F : List Nat} (hF : F.Nodup) (hn : ∀ q ∈ F, ∀ j, j < 80 → j ≠ k0 → (∃ L, A j = some (.inr L)) → q ∈ Fs j → ∀ fs, h q ≠ some (.inr (5, fs))) (h5 : ∀ q fs, h' q = some (.inr (5, fs)) → ∃ fs', h q = some (.inr (5, fs'))) : dsj h' (fun j => if j = k0 then some (.inr L0) else A j) (fun j => if j = k0 then F else Fs j) := by
  refine ⟨fun k hk L hL => ?_, fun k j hk hj hkj fk fj q q1 q2 fs e => ?_⟩
  · dsimp only at hL ⊢
    by_cases z : k = k0
    · rw [if_pos z]
      exact hF
    · rw [if_neg z] at hL ⊢
      exact d.1 k hk L hL
  · dsimp only at fk fj q1 q2
    obtain ⟨fs', e'⟩ := h5 q fs e
    by_cases z : k = k0
    · rw [if_pos z] at q1
      have z2 : j ≠ k0 := fun w => hkj (z.trans w.symm)
      rw [if_neg z2] at q2 fj
      exact hn q q1 j hj z2 fj q2 fs' e'
    · rw [if_neg z] at q1 fk
      by_cases z2 : j = k0
      · rw [if_pos z2] at q2
        exact hn q q2 k hk z fk q1 fs' e'
      · rw [if_neg z2] at q2 fj
        exact d.2 k j hk hj hkj fk fj q q1 q2 fs' e'
theorem CIx.setN (c : CIx E U h x A f n er ln ch ce fil fo va re ga od sb v cap t x2 x3 st bf vf ff rf oo Fs) {k : Nat} (hk : k < 80) {y : Cl} {full : Int32} {d : UInt64} (hy : (y = none ∧ full = 0 ∧ d = FP.dconst0) ∨ (y = some (.inl d) ∧ full = 1 ∧ nn d)) (K : ∀ h', CI E U h' x (fun j => if j = k then y else A j) f n er → fU U h h' → Post (.inl none) h') : w_CE_fill E h ce (nI k) full d none Post := by
  have hno : ∀ L, y ≠ some (.inr L) := by
    intro L z
    rcases hy with ⟨e, _⟩ | ⟨e, _⟩ <;> rw [e] at z <;> cases z
  have hx : fil1 E h y [] full d none := by
    rcases hy with ⟨e1, e2, e3⟩ | ⟨e1, e2, e3⟩
    · exact Or.inl ⟨e1, e2, e3, rfl⟩
    · exact Or.inr (Or.inl ⟨d, e1, e2, rfl, e3, rfl⟩)
  refine cls_fill hk c.2.1 hx (fun ⟨L, z⟩ => absurd z (hno L)) fun h' bf' vf' ff' a fr => ?_
  have key := c.cells a (c.2.2.1.setN hno (a.is5 fr)) (Or.inl rfl) (fun q q1 q2 q3 q4 _ _ _ _ => Or.inl (fr q q1 q2 q3 q4)) (fun j hj hL q hq hu => by
    dsimp only at hL hq
    by_cases z : j = k
    · rw [if_pos z] at hq
      cases hq
    · rw [if_neg z] at hL hq
      exact (c.2.2.2.2.2.2 q hu).2.2.2 (ccp_F hj hL hq))
  exact K h' key.1.ci key.2
theorem sh_put (c : CI E U h x A f n er) {y1 y2 : Int32} {d : UInt64} (hd : nn d) (hm : 2 ≤ mc) (hs : 12 ≤ ms) (K1 : p_MO_out y1 y2 = 1 → Post (.inr "java/lang/IndexOutOfBoundsException") h) (K2 : ∀ C W : Nat, C < 8 → W < 10 → y1 = nI C → y2 = nI W → ¬ nb d → Post (.inr "java/lang/IllegalArgumentException") h) (K0 : ∀ C W : Nat, C < 8 → W < 10 → y1 = nI C → y2 = nI W → nb d → ∀ h', CI E U h' x (fun j => if j = W * 8 + C then some (.inl d) else A j) f n er → fU U h h' → Post (.inl none) h') : w_SH_put mc ms E h x y1 y2 d Post := by
  obtain ⟨ln, ch, ce, fil, fo, va, re, ga, od, sb, v, cap, t, x2, x3, st, bf, vf, ff, rf, oo, Fs, c⟩ := c
  refine ⟨1, 6, by omega, by omega, sh_cell (Nat.le_refl 1) (Nat.le_refl 6) K1 fun C W hC hW e1 e2 => fs_ki_of ?_⟩
  by_cases hn : nb d
  · refine isBad_ok hn (fs_ki_of ?_)
    rw [if_pos rfl]
    refine fs_gr_of c.1.1 rfl ⟨c.2.1.isc, c.2.1.isc, ?_⟩
    exact c.setN (by omega) (Or.inr ⟨rfl, rfl, hd⟩) fun h' a b => fs_kv_of (fs_kv_of (K0 C W hC hW e1 e2 hn h' a b))
  · refine isBad_bad hd hn (fs_ki_of ?_)
    rw [if_neg (show ¬ (1 : Int32) = 0 by decide)]
    exact ⟨by omega, by omega, K2 C W hC hW e1 e2 hn⟩
theorem sh_erase (c : CI E U h x A f n er) {y1 y2 : Int32} (hm : 2 ≤ mc) (hs : 12 ≤ ms) (K1 : p_MO_out y1 y2 = 1 → Post (.inr "java/lang/IndexOutOfBoundsException") h) (K2 : ∀ C W : Nat, C < 8 → W < 10 → y1 = nI C → y2 = nI W → A (W * 8 + C) = none → Post (.inr "java/util/NoSuchElementException") h) (K0 : ∀ C W : Nat, C < 8 → W < 10 → y1 = nI C → y2 = nI W → A (W * 8 + C) ≠ none → ∀ h', CI E U h' x (fun j => if j = W * 8 + C then none else A j) f n er → fU U h h' → Post (.inl none) h') : w_SH_erase mc ms E h x y1 y2 Post := by
  obtain ⟨ln, ch, ce, fil, fo, va, re, ga, od, sb, v, cap, t, x2, x3, st, bf, vf, ff, rf, oo, Fs, c⟩ := c
  refine ⟨2, 12, hm, hs, fs_isc_of c.1.1, sh_fcell c (Nat.le_refl 2) (Nat.le_refl 12) K1 K2 fun C W hC hW e1 e2 hA => fs_ki_of ?_⟩
  refine fs_gr_of c.1.1 rfl ⟨c.2.1.isc, c.2.1.isc, ?_⟩
  exact c.setN (by omega) (Or.inl ⟨rfl, rfl, rfl⟩) fun h' a b => fs_kv_of (fs_kv_of (K0 C W hC hW e1 e2 hA h' a b))
theorem sh_row {y : Int32} (hm : 1 ≤ mc) (hs : 6 ≤ ms) (K1 : p_MO_out 0 y = 1 → Post (.inr "java/lang/IndexOutOfBoundsException") h) (K0 : ∀ W : Nat, W < 10 → y = nI W → Post (.inl (some (.int (nI (W * 8 + 0))))) h) : w_SH_cellAt mc ms E h 0 y Post := sh_cell hm hs K1 fun C W hC hW e1 e2 => by
  have : C = 0 := ((nI_eq (a := 0) (by decide) (by omega)).mp e1).symm
  rw [this]
  exact K0 W hW e2
theorem sh_insert (c : CI E U h x A f n er) {y : Int32} (hm : 1 ≤ mc) (hs : 6 ≤ ms) (K1 : p_MO_out 0 y = 1 → Post (.inr "java/lang/IndexOutOfBoundsException") h) (K0 : ∀ W : Nat, W < 10 → y = nI W → ∀ h', CI E U h' x (insS A W) f n er → fU U h h' → Post (.inl (some (.int (nI (rowc A 9))))) h') : w_SH_insert mc ms E h x y Post := by
  obtain ⟨ln, ch, ce, fil, fo, va, re, ga, od, sb, v, cap, t, x2, x3, st, bf, vf, ff, rf, oo, Fs, c⟩ := c
  refine ⟨1, 6, hm, hs, sh_row (Nat.le_refl 1) (Nat.le_refl 6) K1 fun W hW e => fs_ki_of ?_⟩
  refine fs_gr_of c.1.1 rfl ⟨c.2.1.isc, ?_⟩
  rw [e]
  refine cls_rowIn hW c.2.1 c.2.2.1 fun h' bf' vf' ff' Fs' a b g s => fs_ki_of ?_
  have key := c.cells a b (Or.inl rfl) (fun q q1 q2 q3 q4 _ _ _ _ => by
    rcases g q q1 q2 q3 q4 with w | ⟨w, _⟩
    · exact Or.inl w
    · exact Or.inr w) (fun j hj hL q hq hu => by
    obtain ⟨i, hi, hL', e'⟩ := s j hj hL
    rw [e'] at hq
    exact (c.2.2.2.2.2.2 q hu).2.2.2 (ccp_F hi hL' hq))
  exact K0 W hW e h' key.1.ci key.2
theorem sh_delete (c : CI E U h x A f n er) {y : Int32} (hm : 1 ≤ mc) (hs : 6 ≤ ms) (K1 : p_MO_out 0 y = 1 → Post (.inr "java/lang/IndexOutOfBoundsException") h) (K0 : ∀ W : Nat, W < 10 → y = nI W → ∀ h', CI E U h' x (delS A W) f n er → fU U h h' → Post (.inl (some (.int (nI (rowc A W))))) h') : w_SH_delete mc ms E h x y Post := by
  obtain ⟨ln, ch, ce, fil, fo, va, re, ga, od, sb, v, cap, t, x2, x3, st, bf, vf, ff, rf, oo, Fs, c⟩ := c
  refine ⟨1, 6, hm, hs, sh_row (Nat.le_refl 1) (Nat.le_refl 6) K1 fun W hW e => fs_ki_of ?_⟩
  refine fs_gr_of c.1.1 rfl ⟨c.2.1.isc, ?_⟩
  rw [e]
  refine cls_rowOut hW c.2.1 c.2.2.1 fun h' bf' vf' ff' Fs' a b g s => fs_ki_of ?_
  have key := c.cells a b (Or.inl rfl) (fun q q1 q2 q3 q4 _ _ _ _ => by
    rcases g q q1 q2 q3 q4 with w | ⟨w, _⟩
    · exact Or.inl w
    · exact Or.inr w) (fun j hj hL q hq hu => by
    obtain ⟨i, hi, hL', e'⟩ := s j hj hL
    rw [e'] at hq
    exact (c.2.2.2.2.2.2 q hu).2.2.2 (ccp_F hi hL' hq))
  exact K0 W hW e h' key.1.ci key.2
end
/-! Pure: the class's face: enter, copy. -/
section
variable {E : fs_E} {U : Nat → Prop} {h h' : fs_Hp} {x ln ch ce fil fo va re ga od sb v cap n : Nat} {A : Shh} {f : Nat → Int32} {t : List Nat} {er x2 x3 st : Int32} {bf : Nat → Int32} {vf : Nat → UInt64} {ff rf : Nat → Option Nat} {oo : Nat → Int32} {Fs : Nat → List Nat} {mc ms : Nat} {Post : fs_Ps}
theorem CI.byX (c : CI E U h x A f n er) (e : ext h h') : CI E U h' x A f n er ∧ fU U h h' := by
  obtain ⟨ln, ch, ce, fil, fo, va, re, ga, od, sb, v, cap, t, x2, x3, st, bf, vf, ff, rf, oo, Fs, c⟩ := c
  exact ⟨(c.byX e).1.ci, (c.byX e).2⟩
/-- a part outlives a change of the cells -/
theorem rp.byF (c : clL E h A ce fil fo va re ga od st bf vf ff rf oo Fs) (fr : fcF ce fil va fo h h') {m r : Nat} {L : List It} {F : List Nat} (t : rp m E h r L F) (hfo : fo ∉ F) : rp m E h' r L F := by
  refine t.kept m fun q hq => fr q (fun z => ?_) (fun z => rp_notI t c.1.1.2.1 (z ▸ hq)) (fun z => rp_notD t c.1.1.2.2.1 (z ▸ hq)) (fun z => hfo (z ▸ hq))
  rcases rp_cls m t q hq with ⟨cc, fs, w1, w2, w3⟩ | ⟨mm, g, w3⟩
  · rw [z, c.1.1.1] at w3; cases w3; omega
  · unfold tr_in at w3; rw [z, c.1.1.1] at w3; cases w3
theorem CIx.setF (c : CIx E U h x A f n er ln ch ce fil fo va re ga od sb v cap t x2 x3 st bf vf ff rf oo Fs) {k r : Nat} {L : List It} {F : List Nat} (hk : k < 80) (tr : rp 41 E h r L F) (hnd : F.Nodup) (hU : ∀ q ∈ F, ¬ U q) (hfo : fo ∉ F) (hn : ∀ q ∈ F, ∀ j, j < 80 → j ≠ k → (∃ L, A j = some (.inr L)) → q ∈ Fs j → ∀ fs, h q ≠ some (.inr (5, fs))) (K : ∀ h', CI E U h' x (fun j => if j = k then some (.inr L) else A j) f n er → fU U h h' → fcF ce fil va fo h h' → Post (.inl none) h') : w_CE_fill E h ce (nI k) 1 FP.dconst0 (some r) Post := by
  have hx : fil1 E h (some (.inr L)) F 1 FP.dconst0 (some r) := Or.inr (Or.inr ⟨L, r, rfl, rfl, nb_0.nn, rfl, tr⟩)
  refine cls_fill hk c.2.1 hx (fun _ => hfo) fun h' bf' vf' ff' a fr => ?_
  have key := c.cells a (c.2.2.1.setF hnd hn (a.is5 fr)) (Or.inl rfl) (fun q q1 q2 q3 q4 _ _ _ _ => Or.inl (fr q q1 q2 q3 q4)) (fun j hj hL q hq hu => by
    dsimp only at hL hq
    by_cases z : j = k
    · rw [if_pos z] at hq
      exact hU q hq hu
    · rw [if_neg z] at hL hq
      exact (c.2.2.2.2.2.2 q hu).2.2.2 (ccp_F hj hL hq))
  exact K h' key.1.ci key.2 fr
theorem cset_new {h : fs_Hp} {a : Nat} : cset (fs_up h a (.inr (3, [.long 0, .long 0]))) a (fun _ => false) := by
  refine ⟨0, 0, fs_up_self, fun i _ => bt_0 i, fun k _ => ?_⟩
  unfold hs
  split
  · exact (bt_0 k).symm
  · exact (bt_0 (k - 64)).symm
theorem ps_read_le {C : Nat → Nat} {n : Nat} (h0 : ∀ q, n ≤ q → C q = 0) : (ps_read C n).2 ≤ n := by
  unfold ps_read
  refine ps_then_in (ps_logic_le h0 8 0 0 (Nat.zero_le n)) fun v _ => ?_
  split <;> exact ps_logic_le h0 8 0 0 (Nat.zero_le n)
theorem sh_enter (c : CI E U h x A f n er) {y1 y2 : Int32} (hm : 100 ≤ mc) (hs : 300 ≤ ms) (K1 : p_MO_out y1 y2 = 1 → Post (.inr "java/lang/IndexOutOfBoundsException") h) (K2 : ∀ C W : Nat, C < 8 → W < 10 → y1 = nI C → y2 = nI W → (ps_read (pa_n f n) n).1 = none → ∀ h', CI E U h' x A f 0 (nI (ps_read (pa_n f n) n).2) → fU U h h' → Post (.inr "java/lang/IllegalArgumentException") h') (K0 : ∀ C W : Nat, C < 8 → W < 10 → y1 = nI C → y2 = nI W → ∀ L, (ps_read (pa_n f n) n).1 = some L → fok L → ∀ h', CI E U h' x (fun j => if j = W * 8 + C then some (.inr L) else A j) f 0 (-1) → fU U h h' → Post (.inl (some (.int (nI (cnt (rck L)))))) h') : w_SH_enter mc ms E h x y1 y2 Post := by
  obtain ⟨ln, ch, ce, fil, fo, va, re, ga, od, sb, v, cap, t, x2, x3, st, bf, vf, ff, rf, oo, Fs, c⟩ := c
  obtain ⟨b1, b2, b3, b4, b5⟩ := c.1
  obtain ⟨k1, k2, k3, k4, k5⟩ := c.knds
  have n1 : ln ≠ ch := fun z => by rw [z] at k2; omega
  have n2 : x ≠ ch := fun z => by rw [z] at k1; omega
  have n3 : x ≠ ln := fun z => by rw [z] at k1; omega
  have hxn : h x ≠ none := knd_no (by omega)
  have hln : h ln ≠ none := knd_no (by omega)
  refine ⟨1, 6, by omega, by omega, sh_cell (Nat.le_refl 1) (Nat.le_refl 6) K1 fun C W hC hW e1 e2 => fs_ki_of ?_⟩
  refine fs_gr_of b1 rfl ⟨80, 240, by omega, by omega, fs_isc_of b2, cp_read (at0 := 0) (op0 := 0) b2 b3 b4 b5 (Nat.le_refl 80) (Nat.le_refl 240) ⟨fun e0 h1 o' a px => fs_koN ?_, fun L e0 h1 r0 F a px tr hnd hfr => fs_koS ?_⟩⟩
  · have hx1 := (px x n3 hxn).trans b1
    refine fs_gr_of hx1 rfl (fs_pw_of a.1 (Nat.le_of_ble_eq_true rfl) (fs_gr_of (fs_up_at n3 hx1) rfl (fs_gi_of fs_up_self rfl (fs_pw_of (fs_up_at n3 hx1) (Nat.le_of_ble_eq_true rfl) ⟨by omega, by omega, ?_⟩))))
    have key := c.line (h' := fs_up (fs_up h1 ln (.inr (1, [.ref ch, .int (nI 0), .int (nI (ps_read (pa_n f n) n).2), .int (nI o')]))) x (.inr (0, [.ref ln, .ref ce, .ref sb, .int (nI (ps_read (pa_n f n) n).2)]))) (f' := f) (n' := 0) (er' := nI (ps_read (pa_n f n) n).2) (y2 := nI (ps_read (pa_n f n) n).2) (y3 := nI o') fs_up_self (fs_up_at (Ne.symm n3) fs_up_self) (fs_up_at (Ne.symm n2) (fs_up_at (Ne.symm n1) a.2.1)) (Nat.zero_le _) (fun i hi => absurd hi (Nat.not_lt_zero i)) (fun q q1 q2 q3 hq => by rw [fs_up_ne q1, fs_up_ne q2]; exact px q q2 hq)
    exact K2 C W hC hW e1 e2 e0 _ key.1.ci key.2
  · have hx1 := (px x n3 hxn).trans b1
    have hle : (ps_read (pa_n f n) n).2 ≤ n := ps_read_le pa_n0
    have t41 : rp 41 E h1 r0 L F := tr.more _ (by omega)
    refine fs_gr_of hx1 rfl (fs_pw_of a.1 (Nat.le_of_ble_eq_true rfl) (fs_pw_of (fs_up_at n3 hx1) (Nat.le_of_ble_eq_true rfl) (fs_gr_of fs_up_self rfl ?_)))
    have hH : ∃ H, H = fs_up (fs_up h1 ln (.inr (1, [.ref ch, .int (nI 0), .int (nI (ps_read (pa_n f n) n).2), .int (nI 0)]))) x (.inr (0, [.ref ln, .ref ce, .ref sb, .int (-1)])) := ⟨_, rfl⟩
    obtain ⟨H, eH⟩ := hH
    have key := c.line (h' := H) (f' := f) (n' := 0) (er' := -1) (y2 := nI (ps_read (pa_n f n) n).2) (y3 := nI 0) (by rw [eH]; exact fs_up_self) (by rw [eH]; exact fs_up_at (Ne.symm n3) fs_up_self) (by rw [eH]; exact fs_up_at (Ne.symm n2) (fs_up_at (Ne.symm n1) a.2.1)) (Nat.zero_le _) (fun i hi => absurd hi (Nat.not_lt_zero i)) (fun q q1 q2 q3 hq => by rw [eH, fs_up_ne q1, fs_up_ne q2]; exact px q q2 hq)
    obtain ⟨c2, u2⟩ := key
    have tH : rp 41 E H r0 L F := t41.kept 41 fun q hq => by
      have hqn := hfr q hq
      rw [eH, fs_up_ne (fun z => hxn (z ▸ hqn)), fs_up_ne (fun z => hln (z ▸ hqn))]
    have goal : fs_isc H ce 2 ∧ (w_CE_setFormula E H ce (nI (W * 8 + C)) r0 (fs_kv (fun h119 => 1 ≤ ((mc - 1) - 80) ∧ 2 ≤ ((ms - 6) - 240) ∧ ∀ a120 : Nat, h119 a120 = none → (fun h121 : fs_Hp => w_CS_init E h121 a120 (fs_kv (fun h122 => w_N_addCells 42 E h122 r0 a120 (fs_kv (fun h123 => fs_isc h123 a120 3 ∧ (w_CS_size E h123 a120 (fs_ki (fun x125 h124 => Post (.inl (some (.int x125))) h124) (fun C_ h_ => Post (.inr C_) h_)))) (fun C_ h_ => Post (.inr C_) h_))) (fun C_ h_ => Post (.inr C_) h_))) (fs_up h119 a120 (.inr (3, [.long 0, .long 0])))) (fun C_ h_ => Post (.inr C_) h_))) := by
      refine ⟨c2.2.1.isc, c2.2.1.isc, ?_⟩
      refine c2.setF (by omega) tH hnd (fun q hq hu => (c.2.2.2.2.2.2 q hu).1 (hfr q hq)) (fun hq => ccp_some c.2.1 (Or.inr (Or.inr (Or.inl rfl))) (hfr fo hq)) (fun q hq j hj _ hL hq2 => absurd (hfr q hq) (ccp_some c.2.1 (ccp_F hj hL hq2))) fun h2 c3 u3 f3 => fs_kv_of (fs_kv_of ⟨by omega, by omega, fun s hs0 => ?_⟩)
      have hfoF : fo ∉ F := fun hq => ccp_some c.2.1 (Or.inr (Or.inr (Or.inl rfl))) (hfr fo hq)
      have t2 : rp 41 E h2 r0 L F := rp.byF c2.2.1 f3 tH hfoF
      have t3 : rp 42 E (fs_up h2 s (.inr (3, [.long 0, .long 0]))) r0 L F := (t2.kept 41 fun q hq => fs_up_ne fun z => t2.some 41 q hq (z ▸ hs0)).more 41 (by omega)
      refine fs_kv_of ?_
      refine cls_addCells 42 t3 cset_new fun h3 cs gg => fs_kv_of ⟨cs.isc, ks_size cs (fs_ki_of ?_)⟩
      have ex : ext h2 h3 := fun q hq => (gg q (fun z => hq (z ▸ hs0))).trans (fs_up_ne fun z => hq (z ▸ hs0))
      have c4 := c3.byX ex
      have ec : cnt (fun k => false || rck L k) = cnt (rck L) := cnt_eq fun i _ => Bool.false_or _
      rw [ec]
      exact K0 C W hC hW e1 e2 L e0 (tr.fok _) h3 c4.1 ((u2.trans u3).trans c4.2)
    rw [eH] at goal
    exact goal
theorem sh_copy (c : CI E U h x A f n er) (hA : shok A) {y1 y2 y3 y4 : Int32} (hm : 300 ≤ mc) (hs : 900 ≤ ms) (K1 : (p_MO_out y1 y2 = 1 ∨ p_MO_out y3 y4 = 1) → Post (.inr "java/lang/IndexOutOfBoundsException") h) (K2 : ∀ C W C' W' : Nat, C < 8 → W < 10 → C' < 8 → W' < 10 → y1 = nI C → y2 = nI W → y3 = nI C' → y4 = nI W' → A (W * 8 + C) = none → Post (.inr "java/util/NoSuchElementException") h) (K0 : ∀ C W C' W' : Nat, C < 8 → W < 10 → C' < 8 → W' < 10 → y1 = nI C → y2 = nI W → y3 = nI C' → y4 = nI W' → A (W * 8 + C) ≠ none → ∀ h', CI E U h' x (copS A (W * 8 + C) (W' * 8 + C') (y3 - y1) (y4 - y2)) f n er → fU U h h' → Post (.inl (some (.int (nI (lsC (mpC (itM (y3 - y1) (y4 - y2)) (A (W * 8 + C)))) - nI (lsC (A (W * 8 + C))))))) h') : w_SH_copy mc ms E h x y1 y2 y3 y4 Post := by
  obtain ⟨ln, ch, ce, fil, fo, va, re, ga, od, sb, v, cap, t, x2, x3, st, bf, vf, ff, rf, oo, Fs, c⟩ := c
  refine ⟨1, 6, by omega, by omega, sh_cell (Nat.le_refl 1) (Nat.le_refl 6) (fun e => K1 (Or.inr e)) fun C' W' hC' hW' e3 e4 => fs_ki_of ?_⟩
  refine ⟨2, 12, by omega, by omega, fs_isc_of c.1.1, sh_fcell c (Nat.le_refl 2) (Nat.le_refl 12) (fun e => K1 (Or.inl e)) (fun C W hC hW e1 e2 => K2 C W C' W' hC hW hC' hW' e1 e2 e3 e4) fun C W hC hW e1 e2 hne => fs_ki_of ?_⟩
  have hk : W * 8 + C < 80 := by omega
  have hk' : W' * 8 + C' < 80 := by omega
  have kin : vp_in (nI (W * 8 + C)) 80 := nI_in hk (by omega)
  have K9 := K0 C W C' W' hC hW hC' hW' e1 e2 e3 e4 hne
  refine fs_gr_of c.1.1 rfl (fs_gr_of c.2.1.1.1.1 rfl (fs_aq_of c.2.1.1.2.2.1 kin ?_))
  rw [nI_clamp (by omega)]
  match e : A (W * 8 + C) with
  | none => exact absurd e hne
  | some (.inl d) =>
    rw [(c.2.1.2.1 _ hk).2 (fun L z => by rw [e] at z; cases z)]
    try dsimp only
    refine fs_gr_of c.1.1 rfl (fs_gr_of c.1.1 rfl (fs_gr_of c.2.1.1.1.1 rfl (fs_ad_of c.2.1.1.1.2.2.1 kin ⟨c.2.1.isc, c.2.1.isc, ?_⟩)))
    rw [nI_clamp (by omega), ((c.2.1.2.2.2.2.1 _ hk).2.1 d e).2]
    have hnn : nn d := ((hA _ hk).1 d e).nn
    refine c.setN hk' (y := some (.inl d)) (Or.inr ⟨rfl, rfl, hnn⟩) fun h' a b => fs_kv_of (fs_kv_of ?_)
    have := K9 h' (by
      unfold copS
      rw [e]
      exact a) b
    rw [e] at this
    exact this
  | some (.inr L) =>
    obtain ⟨r0, r1, r2⟩ := (c.2.1.2.1 _ hk).1 L e
    obtain ⟨hfk, hlen, _⟩ := (hA _ hk).2 L e
    rw [r1]
    try dsimp only
    refine ⟨240, 800, by omega, by omega, ?_⟩
    refine cls_moved (y3 - y1) (y4 - y2) E 41 42 (by decide) r2 (c.2.2.1.1 _ hk L e) (by omega) (by omega) fun h1 r' F' t1 ex mv => fs_kr_of ?_
    obtain ⟨c1, u1⟩ := c.byX ex
    have hfo : fo ∉ Fs (W * 8 + C) := c.2.1.2.2.2.2.2 _ hk L e
    have hcc : ∀ q, q ∈ Fs (W * 8 + C) → ccp ce fil fo va re ga od rf A Fs q := fun q hq => ccp_F hk ⟨L, e⟩ hq
    have hfo' : fo ∉ F' := fun hq => by
      rcases mv.2 fo hq with z | ⟨z, _⟩
      · exact ccp_some c.2.1 (Or.inr (Or.inr (Or.inl rfl))) z
      · exact hfo z
    refine fs_gr_of c1.1.1 rfl ⟨c1.2.1.isc, c1.2.1.isc, ?_⟩
    refine c1.setF hk' t1 mv.1 (fun q hq hu => ?_) hfo' (fun q hq j hj _ hL hq2 fs => ?_) fun h2 c2 u2 f2 => fs_kv_of (fs_kv_of ?_)
    · rcases mv.2 q hq with z | ⟨z, _⟩
      · exact (c.2.2.2.2.2.2 q hu).1 z
      · exact (c.2.2.2.2.2.2 q hu).2.2.2 (hcc q z)
    · have hqn : h q ≠ none := ccp_some c.2.1 (ccp_F hj hL hq2)
      rw [ex q hqn]
      rcases mv.2 q hq with z | ⟨_, z⟩
      · exact absurd z hqn
      · exact z fs
    · have s0 : rp 41 E h1 r0 L (Fs (W * 8 + C)) := r2.kept 41 fun q hq => ex q (r2.some 41 q hq)
      have s1 : rp 41 E h2 r0 L (Fs (W * 8 + C)) := rp.byF c1.2.1 f2 s0 hfo
      have s2 : rp 41 E h2 r' (L.map (itM (y3 - y1) (y4 - y2))) F' := rp.byF c1.2.1 f2 t1 hfo'
      refine cls_lost 41 s2 (fs_ki_of (cls_lost 41 s1 (fs_ki_of ?_)))
      have := K9 h2 (by
        unfold copS
        rw [e]
        exact c2) (u1.trans u2)
      rw [e] at this
      exact this
end
/-! Pure: the class's face: value, kind, reaches, count, text. -/
def kdC (x : Cl) (c : Bool) (v : Vl) : Int32 := match x with | none => 0 | some (.inl _) => 1 | some (.inr _) => if c = true then 4 else if v = none then 3 else 2
def kdA (A : Shh) (k : Nat) : Int32 := kdC (A k) (rea A k k) (val A k)
def ctA (A : Shh) (n : Nat) (y : Int32) : Int32 := if y = 0 then nI n else if y = 1 then nI (cnt (fun k => (A k).isSome)) else if y = 2 then nI (cnt (fun k => (fmo (A k)).isSome)) else if y = 3 then nI (cnt (fun k => rea A k k)) else if y = 4 then nI (cnt (isB A)) else if y = 5 then nI (smr (fun k => lsC (A k)) 80 0) else -1
theorem chr255 : ∀ c, c < 128 → (Int32.toUInt32 (nI c &&& (255 : Int32)) % 65536).toInt32 = nI c := by decide
section
variable {E : fs_E} {U : Nat → Prop} {h h' : fs_Hp} {x ln ch ce fil fo va re ga od sb v cap n : Nat} {A : Shh} {f : Nat → Int32} {t : List Nat} {er x2 x3 st : Int32} {bf : Nat → Int32} {vf : Nat → UInt64} {ff rf : Nat → Option Nat} {oo : Nat → Int32} {Fs : Nat → List Nat} {mc ms : Nat} {Post : fs_Ps}
theorem CIx.settle (hE : fs_In E) (hA : shok A) (c : CIx E U h x A f n er ln ch ce fil fo va re ga od sb v cap t x2 x3 st bf vf ff rf oo Fs) (K : ∀ h' vf' oo', CIx E U h' x A f n er ln ch ce fil fo va re ga od sb v cap t x2 x3 1 bf vf' ff rf oo' Fs → stld A h' rf vf' → fU U h h' → Post (.inl none) h') : w_CE_settle E h ce Post := by
  obtain ⟨P, hr⟩ := c.2.1.2.2.2.1
  refine cls_settle hE hA c.2.1.2.2.1 c.2.1.1 c.2.1.2.1 hr c.2.1.2.2.2.2.1 c.2.2.2.1 fun h' vf' oo' fr a b cl s => ?_
  have c' : clL E h' A ce fil fo va re ga od 1 bf vf' ff rf oo' Fs := ⟨a, b, c.2.1.2.2.1, ⟨rea A, s.1⟩, cl, c.2.1.2.2.2.2.2⟩
  have h5 : ∀ q fs, h' q = some (.inr (5, fs)) → ∃ fs', h q = some (.inr (5, fs')) := by
    intro q fs e
    have n1 : q ≠ ce := fun z => by rw [z, a.1.1] at e; cases e
    have n2 : q ≠ va := fun z => by rw [z, a.1.2.2.1] at e; cases e
    have n3 : q ≠ od := fun z => by rw [z, a.2.2.2.2.1] at e; cases e
    obtain ⟨gf, g⟩ := a.2.1
    unfold gaF at g
    have n4 : q ≠ ga := fun z => by rw [z, g] at e; cases e
    have n5 : ∀ k, k < 80 → rf k ≠ some q := fun k hk z => by
      obtain ⟨s', e1, lo, hi, e2, _⟩ := s.1 k hk
      rw [z] at e1
      cases e1
      rw [e2] at e
      cases e
    exact ⟨fs, by rw [← fr q n1 n2 n3 n4 n5]; exact e⟩
  have d' : dsj h' A Fs := c.2.2.1.re (fun k => k) (fun k hk _ => ⟨hk, rfl, rfl⟩) (fun k j _ _ _ _ hkj => hkj) h5
  have key := c.cells c' d' (Or.inr ⟨rfl, s⟩) (fun q q1 _ q3 _ q5 q6 q7 _ => Or.inl (fr q q1 q3 q5 q6 q7)) (fun j hj hL q hq hu => (c.2.2.2.2.2.2 q hu).2.2.2 (ccp_F hj hL hq))
  exact K h' vf' oo' key.1 s key.2
theorem sh_value (hE : fs_In E) (hA : shok A) (c : CI E U h x A f n er) {y1 y2 : Int32} (hm : 3 ≤ mc) (hs : 18 ≤ ms) (K1 : p_MO_out y1 y2 = 1 → Post (.inr "java/lang/IndexOutOfBoundsException") h) (K2 : ∀ C W : Nat, C < 8 → W < 10 → y1 = nI C → y2 = nI W → A (W * 8 + C) = none → Post (.inr "java/util/NoSuchElementException") h) (K3 : ∀ C W : Nat, C < 8 → W < 10 → y1 = nI C → y2 = nI W → A (W * 8 + C) ≠ none → rea A (W * 8 + C) (W * 8 + C) = true → ∀ h', CI E U h' x A f n er → fU U h h' → Post (.inr "java/lang/IllegalStateException") h') (K4 : ∀ C W : Nat, C < 8 → W < 10 → y1 = nI C → y2 = nI W → A (W * 8 + C) ≠ none → rea A (W * 8 + C) (W * 8 + C) = false → val A (W * 8 + C) = none → ∀ h', CI E U h' x A f n er → fU U h h' → Post (.inr "java/lang/ArithmeticException") h') (K0 : ∀ C W : Nat, C < 8 → W < 10 → y1 = nI C → y2 = nI W → A (W * 8 + C) ≠ none → rea A (W * 8 + C) (W * 8 + C) = false → ∀ d, nb d → val A (W * 8 + C) = some d → ∀ h', CI E U h' x A f n er → fU U h h' → Post (.inl (some (.double d))) h') : w_SH_value mc ms E h x y1 y2 Post := by
  obtain ⟨ln, ch, ce, fil, fo, va, re, ga, od, sb, v, cap, t, x2, x3, st, bf, vf, ff, rf, oo, Fs, c⟩ := c
  refine ⟨2, 12, by omega, by omega, fs_isc_of c.1.1, sh_fcell c (Nat.le_refl 2) (Nat.le_refl 12) K1 K2 fun C W hC hW e1 e2 hne => fs_ki_of ?_⟩
  have hk : W * 8 + C < 80 := by omega
  have kin : vp_in (nI (W * 8 + C)) 80 := nI_in hk (by omega)
  refine fs_gr_of c.1.1 rfl ⟨c.2.1.isc, c.settle hE hA fun h' vf' oo' c' s u => fs_kv_of ?_⟩
  refine fs_gr_of c'.1.1 rfl ⟨c'.2.1.isc, ce_circ hk c'.2.1.1 s.1 (fs_ki_of ?_)⟩
  cases er : rea A (W * 8 + C) (W * 8 + C) with
  | true =>
    rw [bi_1 rfl, if_neg (show ¬ (1 : Int32) = 0 by decide)]
    exact ⟨by omega, by omega, K3 C W hC hW e1 e2 hne er h' c'.ci u⟩
  | false =>
    rw [bi_0 rfl, if_pos rfl]
    refine fs_gr_of c'.1.1 rfl (fs_gr_of c'.2.1.1.1.1 rfl (fs_ad_of c'.2.1.1.1.2.2.1 kin ?_))
    rw [nI_clamp (by omega)]
    have hck := s.2 _ hk hne (by simp)
    have hnn := c'.2.1.1.1.2.2.2.2 _ hk
    by_cases hn : nb (vf' (W * 8 + C))
    · refine isBad_ok hn (fs_ki_of ?_)
      rw [if_pos rfl]
      refine fs_gr_of c'.1.1 rfl (fs_gr_of c'.2.1.1.1.1 rfl (fs_ad_of c'.2.1.1.1.2.2.1 kin ?_))
      rw [nI_clamp (by omega)]
      rw [ck_ok hn] at hck
      exact K0 C W hC hW e1 e2 hne er _ hn hck.symm h' c'.ci u
    · refine isBad_bad hnn hn (fs_ki_of ?_)
      rw [if_neg (show ¬ (1 : Int32) = 0 by decide)]
      rw [ck_bad hnn hn] at hck
      exact ⟨by omega, by omega, K4 C W hC hW e1 e2 hne er hck.symm h' c'.ci u⟩
theorem sh_kind (hE : fs_In E) (hA : shok A) (c : CI E U h x A f n er) {y1 y2 : Int32} (hm : 3 ≤ mc) (hs : 18 ≤ ms) (K1 : p_MO_out y1 y2 = 1 → Post (.inr "java/lang/IndexOutOfBoundsException") h) (K0 : ∀ C W : Nat, C < 8 → W < 10 → y1 = nI C → y2 = nI W → ∀ h', CI E U h' x A f n er → fU U h h' → Post (.inl (some (.int (kdA A (W * 8 + C))))) h') : w_SH_kind mc ms E h x y1 y2 Post := by
  obtain ⟨ln, ch, ce, fil, fo, va, re, ga, od, sb, v, cap, t, x2, x3, st, bf, vf, ff, rf, oo, Fs, c⟩ := c
  refine ⟨1, 6, by omega, by omega, sh_cell (Nat.le_refl 1) (Nat.le_refl 6) K1 fun C W hC hW e1 e2 => fs_ki_of ?_⟩
  have hk : W * 8 + C < 80 := by omega
  have kin : vp_in (nI (W * 8 + C)) 80 := nI_in hk (by omega)
  have K9 := K0 C W hC hW e1 e2
  unfold kdA at K9
  refine fs_gr_of c.1.1 rfl (fs_gr_of c.2.1.1.1.1 rfl (fs_ai_of c.2.1.1.1.2.1 kin ?_))
  rw [nI_clamp (by omega), c.2.1.2.2.2.2.1.b hk]
  match e : A (W * 8 + C) with
  | none =>
    rw [if_neg (by decide), if_pos rfl]
    rw [e] at K9
    exact K9 h c.ci fU.rf
  | some (.inl d) =>
    rw [if_pos rfl, if_neg (show ¬ (1 : Int32) = 0 by decide)]
    refine fs_gr_of c.1.1 rfl (fs_gr_of c.2.1.1.1.1 rfl (fs_aq_of c.2.1.1.2.2.1 kin ?_))
    rw [nI_clamp (by omega), (c.2.1.2.1 _ hk).2 (fun L z => by rw [e] at z; cases z)]
    try dsimp only
    rw [e] at K9
    exact K9 h c.ci fU.rf
  | some (.inr L) =>
    rw [if_pos rfl, if_neg (show ¬ (1 : Int32) = 0 by decide)]
    refine fs_gr_of c.1.1 rfl (fs_gr_of c.2.1.1.1.1 rfl (fs_aq_of c.2.1.1.2.2.1 kin ?_))
    obtain ⟨r0, r1, _⟩ := (c.2.1.2.1 _ hk).1 L e
    rw [nI_clamp (by omega), r1]
    try dsimp only
    rw [e] at K9
    have hne : A (W * 8 + C) ≠ none := by rw [e]; exact fun z => by cases z
    refine fs_gr_of c.1.1 rfl ⟨c.2.1.isc, c.settle hE hA fun h' vf' oo' c' s u => fs_kv_of ?_⟩
    refine fs_gr_of c'.1.1 rfl ⟨c'.2.1.isc, ce_circ hk c'.2.1.1 s.1 (fs_ki_of ?_)⟩
    replace K9 := K9 h' c'.ci u
    unfold kdC at K9
    dsimp only at K9
    cases er : rea A (W * 8 + C) (W * 8 + C) with
    | true =>
      rw [bi_1 rfl, if_neg (show ¬ (1 : Int32) = 0 by decide)]
      rw [if_pos er] at K9
      exact K9
    | false =>
      rw [bi_0 rfl, if_pos rfl]
      rw [if_neg (by rw [er]; decide)] at K9
      refine fs_gr_of c'.1.1 rfl (fs_gr_of c'.2.1.1.1.1 rfl (fs_ad_of c'.2.1.1.1.2.2.1 kin ?_))
      rw [nI_clamp (by omega)]
      have hck := s.2 _ hk hne (by simp)
      have hnn := c'.2.1.1.1.2.2.2.2 _ hk
      by_cases hn : nb (vf' (W * 8 + C))
      · refine isBad_ok hn (fs_ki_of ?_)
        rw [if_pos rfl]
        rw [ck_ok hn] at hck
        rw [if_neg (by rw [← hck]; exact fun z => by cases z)] at K9
        exact K9
      · refine isBad_bad hnn hn (fs_ki_of ?_)
        rw [if_neg (show ¬ (1 : Int32) = 0 by decide)]
        rw [ck_bad hnn hn] at hck
        rw [if_pos hck.symm] at K9
        exact K9
theorem sh_reaches (hE : fs_In E) (hA : shok A) (c : CI E U h x A f n er) {y1 y2 y3 y4 : Int32} (hm : 3 ≤ mc) (hs : 18 ≤ ms) (K1 : (p_MO_out y1 y2 = 1 ∨ p_MO_out y3 y4 = 1) → Post (.inr "java/lang/IndexOutOfBoundsException") h) (K0 : ∀ C W C' W' : Nat, C < 8 → W < 10 → C' < 8 → W' < 10 → y1 = nI C → y2 = nI W → y3 = nI C' → y4 = nI W' → ∀ h', CI E U h' x A f n er → fU U h h' → Post (.inl (some (.int (bi (rea A (W * 8 + C) (W' * 8 + C')))))) h') : w_SH_reaches mc ms E h x y1 y2 y3 y4 Post := by
  obtain ⟨ln, ch, ce, fil, fo, va, re, ga, od, sb, v, cap, t, x2, x3, st, bf, vf, ff, rf, oo, Fs, c⟩ := c
  refine ⟨1, 6, by omega, by omega, sh_cell (Nat.le_refl 1) (Nat.le_refl 6) (fun e => K1 (Or.inl e)) fun C W hC hW e1 e2 => fs_ki_of ?_⟩
  refine ⟨1, 6, by omega, by omega, sh_cell (Nat.le_refl 1) (Nat.le_refl 6) (fun e => K1 (Or.inr e)) fun C' W' hC' hW' e3 e4 => fs_ki_of ?_⟩
  have hk : W * 8 + C < 80 := by omega
  have hk' : W' * 8 + C' < 80 := by omega
  have kin : vp_in (nI (W * 8 + C)) 80 := nI_in hk (by omega)
  refine fs_gr_of c.1.1 rfl ⟨c.2.1.isc, c.settle hE hA fun h' vf' oo' c' s u => fs_kv_of ?_⟩
  refine fs_gr_of c'.1.1 rfl (fs_gr_of c'.2.1.1.1.1 rfl (fs_aq_of c'.2.1.1.2.2.2.1 kin ?_))
  obtain ⟨s0, s1, s2⟩ := s.1 _ hk
  rw [nI_clamp (by omega), s1]
  try dsimp only
  have K9 := K0 C W C' W' hC hW hC' hW' e1 e2 e3 e4 h' c'.ci u
  refine ⟨s2.isc, ks_has s2 hk' (fs_ki_of ⟨?_, K9⟩)⟩
  cases rea A (W * 8 + C) (W' * 8 + C') <;> decide
theorem sh_count (hE : fs_In E) (hA : shok A) (c : CI E U h x A f n er) {y : Int32} (K : ∀ h', CI E U h' x A f n er → fU U h h' → Post (.inl (some (.int (ctA A n y)))) h') : w_SH_count E h x y Post := by
  obtain ⟨ln, ch, ce, fil, fo, va, re, ga, od, sb, v, cap, t, x2, x3, st, bf, vf, ff, rf, oo, Fs, c⟩ := c
  unfold ctA at K
  unfold w_SH_count
  by_cases h0 : y = 0
  · rw [if_pos h0]
    rw [if_pos h0] at K
    exact fs_gr_of c.1.1 rfl (fs_gi_of c.1.2.1 rfl (K h c.ci fU.rf))
  rw [if_neg h0]
  rw [if_neg h0] at K
  by_cases h1 : y = 1
  · rw [if_pos h1]
    rw [if_pos h1] at K
    refine fs_gr_of c.1.1 rfl ⟨c.2.1.isc, ?_⟩
    refine (show ∀ {Post : fs_Ps}, Post (.inl (some (.int (nI (cfr (fun k => (A k).isSome) (80 - 0) 0))))) h → w_CE_filledFrom E h ce 0 80 Post from fun K' => cls_filledFrom (A := A) c.2.1.1.1 c.2.1.2.2.2.2.1 (Nat.le_refl 80) (by omega) K') (fs_ki_of ?_)
    have e : cfr (fun k => (A k).isSome) (80 - 0) 0 = cnt (fun k => (A k).isSome) := cfr_80 _
    rw [e]
    exact K h c.ci fU.rf
  rw [if_neg h1]
  rw [if_neg h1] at K
  by_cases h2 : y = 2
  · rw [if_pos h2]
    rw [if_pos h2] at K
    exact fs_gr_of c.1.1 rfl ⟨c.2.1.isc, cls_formulas (A := A) (Fs := Fs) c.2.1.1 c.2.1.2.1 (fs_ki_of (K h c.ci fU.rf))⟩
  rw [if_neg h2]
  rw [if_neg h2] at K
  by_cases h3 : y = 3
  · rw [if_pos h3]
    rw [if_pos h3] at K
    refine fs_gr_of c.1.1 rfl ⟨c.2.1.isc, c.2.1.isc, c.settle hE hA fun h' vf' oo' c' s u => fs_kv_of ⟨80 + 1, ?_⟩⟩
    exact ca_L8 (A := A) c'.2.1.1 s.1 80 0 0 (by omega) (fs_ki_of (by rw [Nat.zero_add, cfr_80]; exact K h' c'.ci u))
  rw [if_neg h3]
  rw [if_neg h3] at K
  by_cases h4 : y = 4
  · rw [if_pos h4]
    rw [if_pos h4] at K
    refine fs_gr_of c.1.1 rfl ⟨c.2.1.isc, c.2.1.isc, c.settle hE hA fun h' vf' oo' c' s u => fs_kv_of ⟨80 + 1, ?_⟩⟩
    exact ba_L8 (A := A) c'.2.1.1.1 c'.2.1.2.2.2.2.1 s.2 80 0 0 (by omega) (fs_ki_of (by rw [Nat.zero_add, cfr_80]; exact K h' c'.ci u))
  rw [if_neg h4]
  rw [if_neg h4] at K
  by_cases h5 : y = 5
  · rw [if_pos h5]
    rw [if_pos h5] at K
    exact fs_gr_of c.1.1 rfl ⟨c.2.1.isc, cls_lostAll (A := A) (Fs := Fs) c.2.1.1 c.2.1.2.1 (fs_ki_of (K h c.ci fU.rf))⟩
  rw [if_neg h5]
  rw [if_neg h5] at K
  exact K h c.ci fU.rf
theorem sbR.isc (a : sbR E h sb v cap t) : fs_isc h sb 11 := by
  obtain ⟨g, y, h1, _⟩ := a
  exact fs_isc_of h1
theorem sb_zero (a : sbR E h sb v cap t) (K : ∀ h', sbR E h' sb v cap [] → (∀ q, q ≠ sb → h' q = h q) → Post (.inl none) h') : w_SB_setLength mc ms E h sb 0 Post := by
  obtain ⟨g, y, h1, h2, h3, h4, h5, h6⟩ := a
  have nv : v ≠ sb := fun z => by rw [z, h1] at h2; cases h2
  refine ⟨0, 0, Nat.zero_le _, Nat.zero_le _, fs_isc_of h1, ?_⟩
  unfold w_AB_setLength
  rw [if_pos (show (0 : Int32) ≤ 0 by decide)]
  refine ⟨0, 0, Nat.le_refl _, Nat.le_refl _, fs_isc_of h1, ?_⟩
  refine fs_gr_of h1 rfl (fs_an_of h2 (fs_gi_of h1 rfl ?_))
  rw [sh_r0, if_pos (show (0 : Int32) - Int32.ofNat cap ≤ 0 from (sub_le0 (m := 0) (by omega) (by omega)).mpr (Nat.zero_le _))]
  refine fs_kv_of (fs_gi_of h1 rfl ?_)
  rw [if_pos (show (0 : Int32) ≤ nI t.length from nI_pos' (by omega))]
  refine fs_gi_of h1 rfl ?_
  by_cases hz : nI t.length ≤ 0
  · rw [if_pos hz]
    refine fs_pw_of h1 (Nat.le_of_ble_eq_true rfl) (fs_kv_of (K _ ⟨g, y, fs_up_self, fs_up_at nv h2, Nat.zero_le _, h4, h5, fun i c hi => by cases hi⟩ fun q hq => fs_up_ne hq))
  · rw [if_neg hz]
    refine fs_pw_of h1 (Nat.le_of_ble_eq_true rfl) (fs_pw_of fs_up_self (Nat.le_of_ble_eq_true rfl) (fs_kv_of (K _ ⟨g, 1, fs_up_self, fs_up_at nv (fs_up_at nv h2), Nat.zero_le _, h4, h5, fun i c hi => by cases hi⟩ fun q hq => (fs_up_ne hq).trans (fs_up_ne hq))))
theorem sb_length (a : sbR E h sb v cap t) (K : Post (.inl (some (.int (nI t.length)))) h) : w_SB_length E h sb Post := by
  obtain ⟨g, y, h1, _⟩ := a
  exact ⟨fs_isc_of h1, fs_gi_of h1 rfl (fs_ki_of K)⟩
theorem sb_charAt (a : sbR E h sb v cap t) {i : Nat} (hi : i < t.length) (K : Post (.inl (some (.int (nI (t.getD i 0))))) h) : w_SB_charAt E h sb (nI i) Post := by
  obtain ⟨g, y, h1, h2, h3, h4, h5, h6⟩ := a
  refine ⟨fs_isc_of h1, fs_gi_of h1 rfl (fs_gr_of h1 rfl (fs_gi_of h1 rfl (fs_an_of h2 fun o => ?_)))⟩
  obtain ⟨c, hc, ec⟩ := h5 i (by omega)
  have e1 : g i = nI (t.getD i 0) := by
    rw [h6 i _ (List.getElem?_eq_getElem hi), List.getD_eq_getElem?_getD, List.getElem?_eq_getElem hi]
    rfl
  have e2 : c = t.getD i 0 ∨ True := Or.inr trivial
  unfold w_PC_checkIndex
  rw [if_neg (nI_pos (by omega)), sh_r0, if_neg (show ¬ Int32.ofNat cap < nI t.length from nI_nlt h3 (by omega)), if_pos (nI_lt hi (by omega))]
  refine fs_ki_of (fs_kv_of ?_)
  rw [if_pos rfl]
  refine fs_ai_of h2 (nI_in (by omega) (by omega)) ?_
  rw [nI_clamp (by omega)]
  have e3 : (Int32.toUInt32 (g i &&& (255 : Int32)) % 65536).toInt32 = g i := by rw [ec]; exact chr255 c hc
  refine ⟨pk_nc _, fs_ki_of ⟨pk_nc _, ?_⟩⟩
  rw [e3, e1]
  exact K
theorem sh_text (hA : shok A) (c : CI E U h x A f n er) {y1 y2 y3 : Int32} (hm : 8 ≤ mc) (hs : 4100 ≤ ms) (K1 : p_MO_out y1 y2 = 1 → Post (.inr "java/lang/IndexOutOfBoundsException") h) (K2 : ∀ C W : Nat, C < 8 → W < 10 → y1 = nI C → y2 = nI W → (∀ L, A (W * 8 + C) ≠ some (.inr L)) → Post (.inr "java/lang/UnsupportedOperationException") h) (K0 : ∀ C W : Nat, C < 8 → W < 10 → y1 = nI C → y2 = nI W → ∀ L, A (W * 8 + C) = some (.inr L) → ∀ h', CI E U h' x A f n er → fU U h h' → Post (.inl (some (.int (txc (tex L) y3)))) h') : w_SH_text mc ms E h x y1 y2 y3 Post := by
  obtain ⟨ln, ch, ce, fil, fo, va, re, ga, od, sb, v, cap, t, x2, x3, st, bf, vf, ff, rf, oo, Fs, c⟩ := c
  refine fs_gr_of c.1.1 rfl (fs_gr_of c.2.1.1.1.1 rfl ⟨1, 6, by omega, by omega, sh_cell (Nat.le_refl 1) (Nat.le_refl 6) K1 fun C W hC hW e1 e2 => fs_ki_of ?_⟩)
  have hk : W * 8 + C < 80 := by omega
  have kin : vp_in (nI (W * 8 + C)) 80 := nI_in hk (by omega)
  refine fs_aq_of c.2.1.1.2.2.1 kin ?_
  rw [nI_clamp (by omega)]
  by_cases hf : ∃ L, A (W * 8 + C) = some (.inr L)
  · obtain ⟨L, hL⟩ := hf
    obtain ⟨r0, r1, r2⟩ := (c.2.1.2.1 _ hk).1 L hL
    obtain ⟨hfk, hlen, htx⟩ := (hA _ hk).2 L hL
    have K9 := K0 C W hC hW e1 e2 L hL
    rw [r1]
    try dsimp only
    obtain ⟨⟨s0, s1⟩, s2⟩ := c.2.2.2.2
    have hsb : h sb ≠ none := knd_no (by have := c.knds; omega)
    refine fs_gr_of c.1.1 rfl ⟨0, 0, Nat.zero_le _, Nat.zero_le _, s0.isc, ?_⟩
    refine sb_zero s0 fun h1 z1 z2 => fs_kv_of ?_
    have k1 := c.knds
    have nx : x ≠ sb := fun z => by rw [z] at k1; omega
    have hx1 := (z2 x nx).trans c.1.1
    have hr1 : rp 41 E h1 r0 L (Fs (W * 8 + C)) := r2.kept 41 fun q hq => z2 q fun z => c.far (Or.inr (Or.inr (Or.inr (Or.inl rfl)))) (z ▸ ccp_F hk ⟨L, hL⟩ hq)
    obtain ⟨P, l, w⟩ := cls_bare 41 hr1 htx.1
    have et : tex L = P.flatten := by
      unfold tex
      rw [w.2.1 []]
      rfl
    have hT := tex_len hfk htx
    rw [et] at hT
    have l5 := lev_5 cap
    refine fs_gr_of hx1 rfl ⟨5, 4010, by omega, by omega, ?_⟩
    have g0 : Gd E h1 sb v P.flatten (capC cap 0 P) P 5 4010 h1 := ⟨v, cap, [], z1, gS.rf, Or.inl rfl, s1, rfl, rfl, hT, by omega, by omega⟩
    have g1 : Gd E h1 sb v P.flatten (capC cap 0 P) (brC 0 (P, l)) 5 4010 h1 := by
      unfold brC
      rw [if_neg (Nat.not_lt_zero l)]
      exact g0
    refine (show ∀ {Post : fs_Ps}, (∀ h' mc' ms', Gd E h1 sb v P.flatten (capC cap 0 P) [] mc' ms' h' → Post (.inl none) h') → w_V_write (w_N_writeBare 42) 5 4010 E h1 r0 sb 0 Post from fun K' => w.V (need := 0) (by omega) z1 g1 K') fun h2 mc' ms' gd => fs_kv_of ?_
    obtain ⟨v', cap', t', q1, q2, q3, q4, q5, _⟩ := gd
    rw [List.flatten_nil, List.append_nil] at q5
    have gz : gS sb v h h1 := fun q a1 _ _ => z2 q a1
    have gg : gS sb v h h2 := gz.trans (Or.inl rfl) q2
    have hv : v' = v ∨ h v' = none := by
      rcases q3 with w | w
      · exact Or.inl w
      · by_cases zz : v' = sb
        · obtain ⟨gq, yq, u1, _⟩ := z1
          rw [zz, u1] at w
          cases w
        · exact Or.inr ((z2 v' zz).symm.trans w)
    have key := c.text q1 q4 hv gg
    have hx2 := key.1.1.1
    have K10 := K9 h2 key.1.ci key.2
    rw [et] at K10
    unfold txc at K10
    by_cases hneg : y3 < 0
    · rw [if_pos hneg]
      rw [if_pos hneg] at K10
      exact K10
    · rw [if_neg hneg]
      rw [if_neg hneg] at K10
      refine fs_gr_of hx2 rfl ⟨q1.isc, sb_length q1 (fs_ki_of ?_)⟩
      rw [← q5]
      by_cases hlt : y3 < nI P.flatten.length
      · obtain ⟨i, hi, rfl⟩ := nI_idx hneg hlt (by omega)
        rw [if_neg (nI_ge hi (by omega))]
        rw [if_pos hlt, nI_clamp (by omega)] at K10
        refine fs_gr_of hx2 rfl ⟨q1.isc, ?_⟩
        refine sb_charAt q1 (by rw [← q5]; exact hi) (fs_ki_of ?_)
        rw [← q5]
        exact K10
      · rw [if_neg hlt] at K10
        rw [if_pos (show nI P.flatten.length ≤ y3 by
          rw [Int32.le_iff_toInt_le]
          rw [Int32.lt_iff_toInt_lt] at hlt
          omega)]
        exact K10
  · have hno : ∀ L, A (W * 8 + C) ≠ some (.inr L) := fun L z => hf ⟨L, z⟩
    rw [(c.2.1.2.1 _ hk).2 hno]
    try dsimp only
    exact ⟨by omega, by omega, K2 C W hC hW e1 e2 hno⟩
end
/-! Pure: the reference's whole state; its face. -/
def MQ (M : mo_S) (A : Shh) (f : Nat → Int32) (n : Nat) (er : Int32) : Prop := mR M A ∧ sto M ∧ mo_sz M ∧ (M.1 12 = 0 → stM A M) ∧ M.1 10 = er ∧ pm_names M ∧ M.1 9 = nI n ∧ n ≤ 40 ∧ ∀ i, i < n → M.2.1 8 i = f i ∧ ∃ c, c < 128 ∧ f i = nI c
section
variable {M M' : mo_S} {A A' : Shh} {f f' : Nat → Int32} {n n' : Nat} {er : Int32}
theorem ci.eqv {k : Nat} {x : It} (h : ci M k x) (e : ∀ j, j = 3 ∨ j = 4 ∨ j = 5 → M'.2.1 j k = M.2.1 j k) (el : M'.2.2.1 6 k = M.2.2.1 6 k) : ci M' k x := by
  unfold ci at h ⊢
  rw [e 3 (by omega), e 4 (by omega), e 5 (by omega), el]
  exact h
/-- the cells' content is the same -/
theorem mR.eqv (h : mR M A) (e : ∀ j q, j = 0 ∨ j = 1 → q < 80 → M'.2.1 j q = M.2.1 j q) (e3 : ∀ j q, j = 3 ∨ j = 4 ∨ j = 5 → q < 3200 → M'.2.1 j q = M.2.1 j q) (el : ∀ q, q < 3200 → M'.2.2.1 6 q = M.2.2.1 6 q) (ed : ∀ q, q < 80 → M'.2.2.2 2 q = M.2.2.2 2 q) : mR M' A := by
  intro z hz
  obtain ⟨h1, h2, h3⟩ := h z hz
  refine ⟨fun a => ?_, fun d a => ?_, fun L a => ?_⟩
  · rw [e 0 z (Or.inl rfl) hz]
    exact h1 a
  · rw [e 0 z (Or.inl rfl) hz, ed z hz]
    exact h2 d a
  · obtain ⟨g1, g2, g3, g4⟩ := h3 L a
    refine ⟨by rw [e 0 z (Or.inl rfl) hz]; exact g1, by rw [e 1 z (Or.inr rfl) hz]; exact g2, g3, fun j y hj => ?_⟩
    have hj' : j < L.length := (List.getElem?_eq_some_iff.mp hj).1
    exact (g4 j y hj).eqv (fun i hi => e3 i _ hi (by omega)) (el _ (by omega))
theorem stM.eqv (h : stM A M) (e18 : ∀ q, M'.2.1 18 q = M.2.1 18 q) (el : ∀ j q, 13 ≤ j → j ≤ 16 → M'.2.2.1 j q = M.2.2.1 j q) (ed : ∀ q, M'.2.2.2 17 q = M.2.2.2 17 q) : stM A M' := by
  obtain ⟨h1, h2, h3⟩ := h
  refine ⟨fun i q hi hq => ?_, fun i q hi hq => ?_, fun z hz a => ?_⟩
  · have : m13 M' i q = m13 M i q := by unfold m13; rw [el 13 i (by omega) (by omega), el 14 i (by omega) (by omega)]
    rw [this]
    exact h1 i q hi hq
  · have : m15 M' i q = m15 M i q := by unfold m15; rw [el 15 i (by omega) (by omega), el 16 i (by omega) (by omega)]
    rw [this]
    exact h2 i q hi hq
  · have : vM M' z = vM M z := by unfold vM; rw [e18 z, ed z]
    rw [this]
    exact h3 z hz a
theorem MQ.eqv (q : MQ M A f n er) (e : ∀ j k, j ≤ 7 ∨ j = 18 → M'.2.1 j k = M.2.1 j k) (el : M'.2.2 = M.2.2) (e10 : M'.1 10 = M.1 10) (e12 : M'.1 12 = M.1 12) (hn : M'.1 9 = nI n') (hn4 : n' ≤ 40) (hf : ∀ i, i < n' → M'.2.1 8 i = f' i ∧ ∃ c, c < 128 ∧ f' i = nI c) : MQ M' A f' n' er := by
  obtain ⟨q1, q2, q3, q4, q5, q6, _⟩ := q
  refine ⟨q1.eqv (fun j k hj _ => e j k (by omega)) (fun j k hj _ => e j k (by omega)) (fun k _ => by rw [el]) (fun k _ => by rw [el]), fun k hk => ?_, fun k => ?_, fun z => ?_, e10.trans q5, fun j hj k hk => (e 7 _ (by omega)).trans (q6 j hj k hk), hn, hn4, hf⟩
  · rw [e 0 k (by omega)]
    exact q2 k hk
  · rw [e 1 k (by omega)]
    exact q3 k
  · rw [e12] at z
    exact (q4 z).eqv (fun k => e 18 k (by omega)) (fun j k _ _ => by rw [el]) (fun k => by rw [el])
theorem MQ.f11 (q : MQ M A f n er) (z : Int32) : MQ (mo_f M 11 z) A f n er := q.eqv (fun _ _ _ => rfl) rfl (mo_f_ne M z (by decide)) (mo_f_ne M z (by decide)) ((mo_f_ne M z (by decide)).trans q.2.2.2.2.2.2.1) q.2.2.2.2.2.2.2.1 q.2.2.2.2.2.2.2.2
theorem mq_work (hs : shok A) (q : MQ M A f n er) : ∃ M', q_MO_work M = some M' ∧ MQ M' A f n er ∧ stM A M' ∧ M'.1 11 = M.1 11 := by
  obtain ⟨q1, q2, q3, q4, q5, q6, q7, q8, q9⟩ := q
  obtain ⟨M', w1, w2, w3, w4⟩ := mo_work hs q1 q3 q2 q4
  refine ⟨M', w1, ⟨q1.G w2, fun k hk => ?_, fun k => ?_, fun _ => w3, (w2.1 10 (by decide)).trans q5, fun j hj k hk => (w2.2.1 7 _ (by decide) (by decide) (by decide)).trans (q6 j hj k hk), (w2.1 9 (by decide)).trans q7, q8, fun i hi => ⟨(w2.2.1 8 i (by decide) (by decide) (by decide)).trans (q9 i hi).1, (q9 i hi).2⟩⟩, w3, w2.1 11 (by decide)⟩
  · rw [w2.2.1 0 k (by decide) (by decide) (by decide)]
    exact q2 k hk
  · rw [w2.2.1 1 k (by decide) (by decide) (by decide)]
    exact q3 k
/-! type -/
theorem mq_type1 (q : MQ M A f n er) {y : Int32} (h : y < 0 ∨ ¬ y ≤ 127) : MQ (p_MO_type M y).2 A f n er ∧ (p_MO_type M y).2.1 11 = 1 := by
  have e : (p_MO_type M y).2 = mo_f (mo_f M 11 0) 11 1 := by
    unfold p_MO_type p_MO_fail
    rcases h with h | h
    · rw [if_pos h]
    · by_cases h0 : y < 0
      · rw [if_pos h0]
      · rw [if_neg h0, if_neg h]
  rw [e]
  exact ⟨(q.f11 0).f11 1, mo_f_at _ 11 1⟩
theorem mq_type2 (q : MQ M A f n er) {k : Nat} (hk : k < 128) (hn : n = 40) : MQ (p_MO_type M (nI k)).2 A f n er ∧ (p_MO_type M (nI k)).2.1 11 = 2 := by
  have e : (p_MO_type M (nI k)).2 = mo_f (mo_f M 11 0) 11 2 := by
    unfold p_MO_type p_MO_fail
    rw [if_neg (nI_pos (by omega)), if_pos (show nI k ≤ (127 : Int32) from nI_le (b := 127) (by omega) (by decide)), if_pos (show (mo_f M 11 0).1 9 = 40 by rw [mo_f_ne M 0 (by decide), q.2.2.2.2.2.2.1, hn]; rfl)]
  rw [e]
  exact ⟨(q.f11 0).f11 2, mo_f_at _ 11 2⟩
theorem mq_type0 (q : MQ M A f n er) {k : Nat} (hk : k < 128) (hn : n < 40) : MQ (p_MO_type M (nI k)).2 A (upd f n (nI k)) (n + 1) er ∧ (p_MO_type M (nI k)).2.1 11 = 0 ∧ (p_MO_type M (nI k)).1 = nI (n + 1) := by
  have e9 : (mo_f M 11 0).1 9 = nI n := (mo_f_ne M 0 (by decide)).trans q.2.2.2.2.2.2.1
  have e : p_MO_type M (nI k) = (nI (n + 1), mo_f (mo_i (mo_f M 11 0) 8 n (nI k)) 9 (nI (n + 1))) := by
    unfold p_MO_type
    rw [if_neg (nI_pos (by omega)), if_pos (show nI k ≤ (127 : Int32) from nI_le (b := 127) (by omega) (by decide)), if_neg (show ¬ (mo_f M 11 0).1 9 = 40 by rw [e9]; exact fun z => by have := (nI_eq (b := 40) (by omega) (by decide)).mp z; omega)]
    have e' : (mo_i (mo_f M 11 0) 8 (Int32.toNatClampNeg ((mo_f M 11 0).1 9)) (nI k)).1 9 + 1 = nI (n + 1) := by
      show (mo_f M 11 0).1 9 + 1 = nI (n + 1)
      rw [e9, nI_1]
    rw [e', e9, nI_clamp (by omega), mo_f_at]
  rw [e]
  refine ⟨?_, ?_, rfl⟩
  · refine q.eqv (fun j i hj => ?_) rfl rfl rfl rfl (by omega) (fun i hi => ?_)
    · show (mo_i (mo_f M 11 0) 8 n (nI k)).2.1 j i = M.2.1 j i
      rw [mo_i_at, if_neg (by omega)]
      rfl
    · refine ⟨?_, ?_⟩
      · show (mo_i (mo_f M 11 0) 8 n (nI k)).2.1 8 i = upd f n (nI k) i
        rw [mo_i_at, upd_at]
        by_cases hin : i = n
        · rw [if_pos ⟨rfl, hin⟩, if_pos hin]
        · rw [if_neg (fun z => hin z.2), if_neg hin]
          exact (q.2.2.2.2.2.2.2.2 i (by omega)).1
      · rw [upd_at]
        split
        · exact ⟨k, hk, rfl⟩
        · exact (q.2.2.2.2.2.2.2.2 i (by omega)).2
  · rfl
/-! cells that change -/
theorem kap_iff {z y : Nat} (hz : z < 80) (hy : y < 80) : kap z = kap y ↔ z = y := ⟨fun e => by
  have := congrArg mup e
  rw [mup_kap hz, mup_kap hy] at this
  exact this, fun e => by rw [e]⟩
theorem MQ.setC (q : MQ M A f n er) {y : Nat} (hy : y < 80) {x : Cl} (a : cpF y M M') (hx : mRc M' y x) (hst : sto M') (hsz : mo_sz M') : MQ (mo_f M' 12 1) (fun j => if j = kap y then x else A j) f n er ∧ (mo_f M' 12 1).1 11 = M.1 11 := by
  obtain ⟨q1, q2, q3, q4, q5, q6, q7, q8, q9⟩ := q
  have e1 : ∀ j, j ≠ 12 → (mo_f M' 12 1).1 j = M.1 j := fun j hj => by rw [mo_f_ne M' 1 hj, a.1]
  refine ⟨⟨?_, hst, hsz, fun z => ?_, (e1 10 (by decide)).trans q5, fun j hj k hk => (a.2.1 7 _ (by omega) (by omega)).trans (q6 j hj k hk), (e1 9 (by decide)).trans q7, q8, fun i hi => ⟨(a.2.1 8 i (by omega) (by omega)).trans (q9 i hi).1, (q9 i hi).2⟩⟩, e1 11 (by decide)⟩
  · refine (mR.of (M := M') fun z hz => ?_ : mR M' (fun j => if j = kap y then x else A j)).f 12 1
    by_cases hzy : z = y
    · dsimp only
      rw [hzy, if_pos rfl]
      exact hx
    · dsimp only
      rw [if_neg (fun w => hzy ((kap_iff hz hy).mp w))]
      exact a.c hzy (q1.c hz)
  · rw [mo_f_at] at z
    exact absurd z (by decide)
theorem MQ.cg (q : MQ M A f n er) (a : cgF M M') (hR : mR M' A') (h12 : M'.1 12 = 1) : MQ M' A' f n er := by
  obtain ⟨q1, q2, q3, q4, q5, q6, q7, q8, q9⟩ := q
  refine ⟨hR, a.2.2.1 q2, a.2.2.2 q3, fun z => ?_, (a.1 10 (by decide) (by decide)).trans q5, fun j hj k hk => (a.2.1 7 _ (by omega)).trans (q6 j hj k hk), (a.1 9 (by decide) (by decide)).trans q7, q8, fun i hi => ⟨(a.2.1 8 i (by omega)).trans (q9 i hi).1, (q9 i hi).2⟩⟩
  rw [h12] at z
  exact absurd z (by decide)
theorem idxM {C W : Nat} (hC : C < 8) (hW : W < 10) : (10 * nI C) + nI W = nI (10 * C + W) ∧ (nI (10 * C + W)).toNatClampNeg = 10 * C + W ∧ kap (10 * C + W) = W * 8 + C ∧ 10 * C + W < 80 := ⟨(idx10 hC hW).1, (idx10 hC hW).2.2.2, kap_at hC hW, by omega⟩
theorem mq_put1 (q : MQ M A f n er) {y1 y2 : Int32} {d : UInt64} (h : p_MO_out y1 y2 = 1) : MQ (p_MO_put M y1 y2 d) A f n er ∧ (p_MO_put M y1 y2 d).1 11 = 1 := by
  unfold p_MO_put
  rw [h, if_neg (show ¬ (1 : Int32) = 0 by decide)]
  exact ⟨(q.f11 0).f11 1, mo_f_at _ 11 1⟩
theorem mq_put2 (q : MQ M A f n er) {C W : Nat} (hC : C < 8) (hW : W < 10) {d : UInt64} (hd : nn d) (hb : ¬ nb d) : MQ (p_MO_put M (nI C) (nI W) d) A f n er ∧ (p_MO_put M (nI C) (nI W) d).1 11 = 2 := by
  unfold p_MO_put
  rw [if_pos (out_in hC hW), tg_bad hd hb, if_neg (show ¬ (1 : Int32) = 0 by decide)]
  exact ⟨(q.f11 0).f11 2, mo_f_at _ 11 2⟩
theorem mq_put0 (q : MQ M A f n er) {C W : Nat} (hC : C < 8) (hW : W < 10) {d : UInt64} (hb : nb d) : MQ (p_MO_put M (nI C) (nI W) d) (fun j => if j = W * 8 + C then some (.inl d) else A j) f n er ∧ (p_MO_put M (nI C) (nI W) d).1 11 = 0 := by
  obtain ⟨i1, i2, i3, i4⟩ := idxM hC hW
  unfold p_MO_put
  rw [if_pos (out_in hC hW), if_pos (tg_ok hb), i1, i2]
  have q0 := q.f11 0
  have a : cpF (10 * C + W) (mo_f M 11 0) (mo_d (mo_i (mo_f M 11 0) 0 (10 * C + W) 1) 2 (10 * C + W) d) := ⟨rfl, fun j k h1 h2 => by
    show (mo_i (mo_f M 11 0) 0 (10 * C + W) 1).2.1 j k = (mo_f M 11 0).2.1 j k
    rw [mo_i_at, if_neg (fun z => h1 ⟨Or.inl z.1, z.2⟩)], fun j k _ => rfl, fun j k h1 => by
    rw [mo_d_at, if_neg h1]
    rfl⟩
  have hx : mRc (mo_d (mo_i (mo_f M 11 0) 0 (10 * C + W) 1) 2 (10 * C + W) d) (10 * C + W) (some (.inl d)) := by
    refine ⟨fun z => by cases z, fun d' z => ?_, fun L z => by cases z⟩
    cases z
    refine ⟨?_, by rw [mo_d_at, if_pos ⟨rfl, rfl⟩]⟩
    show (mo_i (mo_f M 11 0) 0 (10 * C + W) 1).2.1 0 (10 * C + W) = 1
    rw [mo_i_at, if_pos ⟨rfl, rfl⟩]
  have key := q0.setC i4 a hx (fun k hk => by
    show (mo_i (mo_f M 11 0) 0 (10 * C + W) 1).2.1 0 k = 0 ∨ (mo_i (mo_f M 11 0) 0 (10 * C + W) 1).2.1 0 k = 1 ∨ (mo_i (mo_f M 11 0) 0 (10 * C + W) 1).2.1 0 k = 2
    rw [mo_i_at]
    split
    · exact Or.inr (Or.inl rfl)
    · exact q0.2.1 k hk) (fun k => q0.2.2.1 k)
  rw [i3] at key
  exact ⟨key.1, key.2.trans (mo_f_at M 11 0)⟩
theorem mR.at0 (h : mR M A) {z : Nat} (hz : z < 80) : M.2.1 0 z = 0 ↔ A (kap z) = none := by
  obtain ⟨h1, h2, h3⟩ := h z hz
  constructor
  · intro e
    match c : A (kap z) with
    | none => rfl
    | some (.inl d) =>
      rw [(h2 d c).1] at e
      exact absurd e (by decide)
    | some (.inr L) =>
      rw [(h3 L c).1] at e
      exact absurd e (by decide)
  · exact h1
theorem mq_erase1 (q : MQ M A f n er) {y1 y2 : Int32} (h : p_MO_out y1 y2 = 1) : MQ (p_MO_erase M y1 y2) A f n er ∧ (p_MO_erase M y1 y2).1 11 = 1 := by
  unfold p_MO_erase
  rw [h, if_neg (show ¬ (1 : Int32) = 0 by decide)]
  exact ⟨(q.f11 0).f11 1, mo_f_at _ 11 1⟩
theorem mq_erase2 (q : MQ M A f n er) {C W : Nat} (hC : C < 8) (hW : W < 10) (hA : A (W * 8 + C) = none) : MQ (p_MO_erase M (nI C) (nI W)) A f n er ∧ (p_MO_erase M (nI C) (nI W)).1 11 = 2 := by
  obtain ⟨i1, i2, i3, i4⟩ := idxM hC hW
  unfold p_MO_erase
  rw [if_pos (out_in hC hW), i1, i2, if_pos ((q.1.at0 i4).mpr (by rw [i3]; exact hA))]
  exact ⟨(q.f11 0).f11 2, mo_f_at _ 11 2⟩
theorem mq_erase0 (q : MQ M A f n er) {C W : Nat} (hC : C < 8) (hW : W < 10) (hA : A (W * 8 + C) ≠ none) : MQ (p_MO_erase M (nI C) (nI W)) (fun j => if j = W * 8 + C then none else A j) f n er ∧ (p_MO_erase M (nI C) (nI W)).1 11 = 0 := by
  obtain ⟨i1, i2, i3, i4⟩ := idxM hC hW
  unfold p_MO_erase
  rw [if_pos (out_in hC hW), i1, i2, if_neg (fun z => hA (by rw [← i3]; exact (q.1.at0 i4).mp z))]
  have q0 := q.f11 0
  have em := mo_empty (M := mo_f M 11 0) (y := 10 * C + W)
  have key := q0.setC i4 em.1 em.2 (fun k hk => by
    rw [mo_i_at]
    split
    · exact Or.inl rfl
    · exact q0.2.1 k hk) (fun k => by
    rw [mo_i_at, if_neg (fun z => absurd z.1 (by decide))]
    exact q0.2.2.1 k)
  rw [i3] at key
  exact ⟨key.1, key.2.trans (mo_f_at M 11 0)⟩
theorem mq_insert1 (q : MQ M A f n er) {y : Int32} (h : p_MO_out 0 y = 1) : MQ (p_MO_insert M y).2 A f n er ∧ (p_MO_insert M y).2.1 11 = 1 := by
  have e : (p_MO_insert M y).2 = mo_f (mo_f M 11 0) 11 1 := by
    unfold p_MO_insert
    rw [h, if_neg (show ¬ (1 : Int32) = 0 by decide)]
    rfl
  rw [e]
  exact ⟨(q.f11 0).f11 1, mo_f_at _ 11 1⟩
theorem mq_delete1 (q : MQ M A f n er) {y : Int32} (h : p_MO_out 0 y = 1) : MQ (p_MO_delete M y).2 A f n er ∧ (p_MO_delete M y).2.1 11 = 1 := by
  have e : (p_MO_delete M y).2 = mo_f (mo_f M 11 0) 11 1 := by
    unfold p_MO_delete
    rw [h, if_neg (show ¬ (1 : Int32) = 0 by decide)]
    rfl
  rw [e]
  exact ⟨(q.f11 0).f11 1, mo_f_at _ 11 1⟩
theorem mq_copy1 (q : MQ M A f n er) {y1 y2 y3 y4 : Int32} (h : p_MO_out y1 y2 = 1 ∨ p_MO_out y3 y4 = 1) : MQ (p_MO_copy M y1 y2 y3 y4).2 A f n er ∧ (p_MO_copy M y1 y2 y3 y4).2.1 11 = 1 := by
  have e : (p_MO_copy M y1 y2 y3 y4).2 = mo_f (mo_f M 11 0) 11 1 := by
    unfold p_MO_copy
    rcases out_or y1 y2 with e1 | e1
    · rw [if_pos e1]
      have e3 : p_MO_out y3 y4 = 1 := by
        rcases h with h | h
        · rw [e1] at h
          exact absurd h (by decide)
        · exact h
      rw [e3, if_neg (show ¬ (1 : Int32) = 0 by decide)]
      rfl
    · rw [e1, if_neg (show ¬ (1 : Int32) = 0 by decide)]
      rfl
  rw [e]
  exact ⟨(q.f11 0).f11 1, mo_f_at _ 11 1⟩
theorem mq_copy2 (q : MQ M A f n er) {C W C' W' : Nat} (hC : C < 8) (hW : W < 10) (hC' : C' < 8) (hW' : W' < 10) (hA : A (W * 8 + C) = none) : MQ (p_MO_copy M (nI C) (nI W) (nI C') (nI W')).2 A f n er ∧ (p_MO_copy M (nI C) (nI W) (nI C') (nI W')).2.1 11 = 2 := by
  obtain ⟨i1, i2, i3, i4⟩ := idxM hC hW
  have e : (p_MO_copy M (nI C) (nI W) (nI C') (nI W')).2 = mo_f (mo_f M 11 0) 11 2 := by
    unfold p_MO_copy
    rw [if_pos (out_in hC hW), if_pos (out_in hC' hW'), i1, i2, if_pos ((q.1.at0 i4).mpr (by rw [i3]; exact hA))]
    rfl
  rw [e]
  exact ⟨(q.f11 0).f11 2, mo_f_at _ 11 2⟩
end
/-! Pure: the reference's face: enter, value, kind, reaches, count, text. -/
theorem rfq_self {x : Int32} (h : xok x) : rfq x x := by
  rcases h with rfl | ⟨C, W, A, B, h1, h2, h3, h4, e⟩
  · exact ⟨0, 0, 0, 0, 1, by decide, by decide, by decide, by decide, by decide, by decide, by decide⟩
  · exact ⟨C, W, A, B, 0, h1, h2, h3, h4, by decide, by rw [e, Nat.mul_zero, Nat.add_zero], by rw [if_pos rfl]; exact e⟩
theorem ci_of_mi {M : mo_S} {k : Nat} {x : It} (h : mi M k x) (hx : itok x) : ci M k x := by
  obtain ⟨m1, m2, m3, m4⟩ := h
  refine ⟨m1, m2, fun z => ?_, fun z1 z2 => ?_⟩
  · rw [m3 z]
    rcases itok_cases hx with ⟨a, ha, e⟩ | ⟨j, a, b, hj, ha, hb, e⟩ | e
    · rw [e]
      exact rfq_self ha
    · rw [e] at z
      exact absurd z (it_rg j hj).2.1
    · exact absurd z e.no.1
  · rw [(m4 z1 z2).1, (m4 z1 z2).2]
    rcases itok_cases hx with ⟨a, ha, e⟩ | ⟨j, a, b, hj, ha, hb, e⟩ | e
    · rw [e] at z1
      exact absurd z1 (show ¬ (2 : Int32) ≤ 1 by decide)
    · rw [e]
      exact ⟨rfq_self ha, rfq_self hb⟩
    · exact absurd ⟨z1, z2⟩ e.no.2
theorem wt1_pos (x : It) : 1 ≤ wt1 x := by
  unfold wt1
  split
  · omega
  · split
    · omega
    · split
      · omega
      · split
        · omega
        · split <;> omega
theorem len_wtL : ∀ L : List It, L.length ≤ wtL L := by
  intro L
  induction L with
  | nil => exact Nat.le_refl _
  | cons x L ih =>
    have := wt1_pos x
    rw [List.length_cons, wtL]
    omega
theorem shok_set {A : Shh} (hA : shok A) {L : List It} (hfk : fok L) (ht : txk L) (k : Nat) : shok (fun j => if j = k then some (.inr L) else A j) := by
  intro j hj
  dsimp only
  by_cases z : j = k
  · rw [if_pos z]
    refine ⟨fun d w => by cases w, fun L' w => ?_⟩
    cases w
    exact ⟨hfk, Nat.le_trans (len_wtL L) ht.2, ht⟩
  · rw [if_neg z]
    exact hA j hj
theorem shok_num {A : Shh} (hA : shok A) {x : Cl} (hx : ∀ L, x ≠ some (.inr L)) (hd : ∀ d, x = some (.inl d) → nb d) (k : Nat) : shok (fun j => if j = k then x else A j) := by
  intro j hj
  dsimp only
  by_cases z : j = k
  · rw [if_pos z]
    exact ⟨hd, fun L' w => absurd w (hx L')⟩
  · rw [if_neg z]
    exact hA j hj
section
variable {M M' : mo_S} {A A' : Shh} {f f' : Nat → Int32} {n n' : Nat} {er : Int32}
theorem MQ.pmL (q : MQ M A f n er) : pm_L M (pa_n f n) n := by
  obtain ⟨q1, q2, q3, q4, q5, q6, q7, q8, q9⟩ := q
  refine ⟨q7, q8, fun i hi => ?_, pa_n0, q6⟩
  obtain ⟨e1, c, hc, e2⟩ := q9 i hi
  have e3 : pa_n f n i = c := by
    unfold pa_n
    rw [if_pos hi, e2, nI_clamp (by omega)]
  rw [e3, e1]
  exact ⟨e2, hc⟩
theorem MQ.byF (q : MQ M A f n er) (a : mm_F M M') : MQ M' A f n er ∧ M'.1 11 = M.1 11 := by
  obtain ⟨q1, q2, q3, q4, q5, q6, q7, q8, q9⟩ := q
  obtain ⟨a1, a2, a3, a4⟩ := a
  refine ⟨⟨q1.eqv (fun j k hj hk => a2 j k (by omega)) (fun j k hj hk => a2 j k (by omega)) (fun k hk => a3 6 k (by omega)) (fun k _ => by rw [a4]), fun k hk => ?_, fun k => ?_, fun z => ?_, (a1 10 (by omega)).trans q5, fun j hj k hk => (a2 7 _ (by omega)).trans (q6 j hj k hk), (a1 9 (by omega)).trans q7, q8, fun i hi => ⟨(a2 8 i (by omega)).trans (q9 i hi).1, (q9 i hi).2⟩⟩, a1 11 (by omega)⟩
  · rw [a2 0 k (by omega)]
    exact q2 k hk
  · rw [a2 1 k (by omega)]
    exact q3 k
  · rw [a1 12 (by omega)] at z
    exact (q4 z).eqv (fun k => a2 18 k (by omega)) (fun j k _ _ => a3 j k (by omega)) (fun k => by rw [a4])
theorem MQ.f10 (q : MQ M A f n er) (z : Int32) : MQ (mo_f (mo_f M 10 z) 9 0) A f 0 z ∧ (mo_f (mo_f M 10 z) 9 0).1 11 = M.1 11 := by
  obtain ⟨q1, q2, q3, q4, q5, q6, q7, q8, q9⟩ := q
  exact ⟨⟨(q1.f 10 z).f 9 0, q2, q3, fun e => q4 e, rfl, q6, rfl, Nat.zero_le _, fun i hi => absurd hi (Nat.not_lt_zero i)⟩, rfl⟩
theorem mq_enter1 (q : MQ M A f n er) {y1 y2 : Int32} (h : p_MO_out y1 y2 = 1) : ∃ r, q_MO_enter M y1 y2 = some r ∧ MQ r.2 A f n er ∧ r.2.1 11 = 1 := by
  refine ⟨(0, mo_f (mo_f M 11 0) 11 1), ?_, (q.f11 0).f11 1, mo_f_at _ 11 1⟩
  unfold q_MO_enter
  rw [h, if_neg (show ¬ (1 : Int32) = 0 by decide)]
  rfl
theorem mq_enter2 (q : MQ M A f n er) {C W : Nat} (hC : C < 8) (hW : W < 10) (hr : (ps_read (pa_n f n) n).1 = none) : ∃ r, q_MO_enter M (nI C) (nI W) = some r ∧ MQ r.2 A f 0 (nI (ps_read (pa_n f n) n).2) ∧ r.2.1 11 = 2 := by
  obtain ⟨M1, e1, e2, _⟩ := pm_fault (q.f11 0).pmL
  have er : pm_rs (ps_read (pa_n f n) n) = nI (ps_read (pa_n f n) n).2 := by
    unfold pm_rs
    rw [hr]
  have hle : (ps_read (pa_n f n) n).2 ≤ n := ps_read_le pa_n0
  have h40 := q.2.2.2.2.2.2.2.1
  rw [er] at e1
  have q1 := ((q.f11 0).byF e2).1
  refine ⟨(0, mo_f (mo_f (mo_f M1 10 (nI (ps_read (pa_n f n) n).2)) 9 0) 11 2), ?_, (q1.f10 _).1.f11 2, mo_f_at _ 11 2⟩
  unfold q_MO_enter
  rw [if_pos (out_in hC hW), e1, Option.bind_some]
  try dsimp only
  rw [if_neg (nI_pos (by omega))]
  rfl
theorem en_L94 {c : Nat} (hc : c < 80) : ∀ (m z acc g : Nat), z + m = 80 → m < g → q_MO_enter_L94 g (nI c) (nI acc) (nI z) M = some (nI (acc + cfr (m13 M c) m z)) := by
  intro m
  induction m with
  | zero =>
    intro z acc g hz hg
    obtain ⟨g, rfl⟩ : ∃ p, g = p + 1 := ⟨g - 1, by omega⟩
    rw [q_MO_enter_L94, if_pos (show (80 : Int32) ≤ nI z from nI_le (a := 80) (by omega) (by omega))]
    rfl
  | succ m ih =>
    intro z acc g hz hg
    obtain ⟨g, rfl⟩ : ∃ p, g = p + 1 := ⟨g - 1, by omega⟩
    have cin : vp_in (nI c) 80 := nI_in hc (by omega)
    rw [q_MO_enter_L94, if_neg (show ¬ (80 : Int32) ≤ nI z from nI_ge (b := 80) (by omega) (by decide)), fs_okp_pos cin, fs_okp_pos cin, nI_clamp (by omega), mo_in (show z < 80 by omega), nI_1, nI_1, cfr]
    have e : ms (M.2.2.1 13 c) (M.2.2.1 14 c) z = m13 M c z := rfl
    rw [e]
    cases h : m13 M c z with
    | true =>
      rw [bi_1 rfl, if_neg (show ¬ (1 : Int32) = 0 by decide), ih (z + 1) (acc + 1) g (by omega) (by omega), if_pos rfl, Nat.add_assoc]
    | false =>
      rw [bi_0 rfl, if_pos rfl, ih (z + 1) acc g (by omega) (by omega), if_neg (by decide), Nat.zero_add]
theorem mq_enter0 (q : MQ M A f n er) (hA : shok A) {C W : Nat} (hC : C < 8) (hW : W < 10) {L : List It} (hr : (ps_read (pa_n f n) n).1 = some L) (hfk : fok L) : shok (fun j => if j = W * 8 + C then some (.inr L) else A j) ∧ ∃ r, q_MO_enter M (nI C) (nI W) = some r ∧ MQ r.2 (fun j => if j = W * 8 + C then some (.inr L) else A j) f 0 (-1) ∧ r.2.1 11 = 0 ∧ r.1 = nI (cnt (rck L)) := by
  have h40 := q.2.2.2.2.2.2.2.1
  have htx : txk L := txk_read hr h40
  have hs' : shok (fun j => if j = W * 8 + C then some (.inr L) else A j) := shok_set hA hfk htx (W * 8 + C)
  refine ⟨hs', ?_⟩
  obtain ⟨i1, i2, i3, i4⟩ := idxM hC hW
  obtain ⟨M1, e1, e2, e3⟩ := pm_fault (q.f11 0).pmL
  obtain ⟨l1, l2, l3⟩ := e3 L hr
  have er : pm_rs (ps_read (pa_n f n) n) = -1 := by
    unfold pm_rs
    rw [hr]
  rw [er] at e1
  have q1 := (q.f11 0).byF e2
  have q2 := q1.1.f10 (-1)
  have hM2 : ∃ M2, M2 = mo_f (mo_f M1 10 (-1)) 9 0 := ⟨_, rfl⟩
  obtain ⟨M2, eM2⟩ := hM2
  rw [← eM2] at q2
  have hM3 : ∃ M3, M3 = mo_i (mo_i M2 0 80 2) 1 80 (nI L.length) := ⟨_, rfl⟩
  obtain ⟨M3, eM3⟩ := hM3
  have a3 : ∀ j k, M3.2.1 j k = if j = 1 ∧ k = 80 then nI L.length else if j = 0 ∧ k = 80 then 2 else M2.2.1 j k := fun j k => by rw [eM3, mo_i_at, mo_i_at]
  have a31 : M3.1 = M2.1 := by rw [eM3]; rfl
  have a32 : M3.2.2 = M2.2.2 := by rw [eM3]; rfl
  have q3 : MQ M3 A f 0 (-1) := by
    obtain ⟨p1, p2, p3, p4, p5, p6, p7, p8, p9⟩ := q2.1
    refine ⟨p1.eqv (fun j k hj hk => by rw [a3, if_neg (by omega), if_neg (by omega)]) (fun j k hj hk => by rw [a3, if_neg (by omega), if_neg (by omega)]) (fun k _ => by rw [a32]) (fun k _ => by rw [a32]), fun k hk => ?_, fun k => ?_, fun z => ?_, by rw [a31]; exact p5, fun j hj k hk => ?_, by rw [a31]; exact p7, p8, fun i hi => absurd hi (Nat.not_lt_zero i)⟩
    · rw [a3, if_neg (by omega)]
      split
      · exact Or.inr (Or.inr rfl)
      · exact p2 k hk
    · rw [a3]
      split
      · rw [nI_toInt (by omega)]
        omega
      · rw [if_neg (by omega)]
        exact p3 k
    · rw [a31] at z
      exact (p4 z).eqv (fun k => by rw [a3, if_neg (by omega), if_neg (by omega)]) (fun j k _ _ => by rw [a32]) (fun k => by rw [a32])
    · rw [a3, if_neg (by omega), if_neg (by omega)]
      exact p6 j hj k hk
  have hx : mRc M3 80 (some (.inr L)) := by
    refine ⟨fun z => by cases z, fun d z => by cases z, fun L' z => ?_⟩
    cases z
    refine ⟨by rw [a3, if_neg (by omega), if_pos ⟨rfl, rfl⟩], by rw [a3, if_pos ⟨rfl, rfl⟩], l2, fun j y hj => ?_⟩
    have c1 := ci_of_mi (l3 j y hj) (hfk.1 y (List.mem_of_getElem? hj))
    refine c1.eqv (fun i hi => ?_) ?_
    · rw [a3, if_neg (by omega), if_neg (by omega), eM2]
      rfl
    · rw [a32, eM2]
      rfl
  obtain ⟨cp1, _, _, cp2⟩ := mo_copyCell (M := M3) (show 80 < 81 by omega) (show 10 * C + W < 81 by omega)
  have gc := gF_copy (M := M3) (show 80 < 81 by omega) (show 10 * C + W < 81 by omega)
  have key := q3.setC i4 cp1 (cp2 _ hx) (gc.2.2.2.2.1 q3.2.1) (gc.2.2.2.2.2.1 q3.2.2.1)
  rw [i3] at key
  obtain ⟨M5, w1, w2, w3, w4⟩ := mq_work hs' key.1
  have e11 : M5.1 11 = 0 := by
    rw [w4, key.2, a31, q2.2, q1.2]
    exact mo_f_at M 11 0
  have ec : cfr (m13 M5 (10 * C + W)) 80 0 = cnt (rck L) := by
    rw [cfr_80, ← cnt_kap (rck L)]
    refine cnt_eq fun i hi => ?_
    rw [w3.1 (10 * C + W) i i4 hi, i3]
    exact refA_L (if_pos rfl) (by omega) (kap_lt hi)
  refine ⟨(nI (cnt (rck L)), M5), ?_, w2, e11, rfl⟩
  unfold q_MO_enter
  rw [if_pos (out_in hC hW), e1, Option.bind_some]
  try dsimp only
  rw [if_pos (show (-1 : Int32) < 0 by decide), i1]
  have v80 : vp_in (80 : Int32) 81 := nI_in (c := 80) (by decide) (by decide)
  rw [fs_okp_pos v80, fs_okp_pos v80, fs_okp_pos (show (0 ≤ (Int32.toInt 80)) ∧ ((Int32.toInt 80) < 81) ∧ (0 ≤ (Int32.toInt (nI (10 * C + W)))) ∧ ((Int32.toInt (nI (10 * C + W))) < 81) from ⟨by decide, by decide, by rw [nI_toInt (by omega)]; omega, by rw [nI_toInt (by omega)]; omega⟩)]
  have e4 : mo_i (mo_i (mo_f (mo_f M1 10 (-1)) 9 0) 0 (Int32.toNatClampNeg 80) 2) 1 (Int32.toNatClampNeg 80) (M1.1 30) = M3 := by
    rw [eM3, eM2, l1]
    rfl
  rw [e4]
  unfold fs_let
  have w1' : q_MO_work (mo_f (p_MO_copyCell M3 80 (nI (10 * C + W))) 12 1) = some M5 := w1
  rw [w1', Option.bind_some]
  try dsimp only
  have lp := en_L94 (M := M5) i4 80 0 0 81 (by omega) (by omega)
  rw [Nat.zero_add, ec] at lp
  have lp' : q_MO_enter_L94 81 (nI (10 * C + W)) 0 0 M5 = some (nI (cnt (rck L))) := lp
  rw [lp', Option.bind_some]
theorem mo_circ (s : stM A M) {z : Nat} (hz : z < 80) : (p_MO_circular M (nI z)).1 = bi (rea A (kap z) (kap z)) := by
  unfold p_MO_circular
  dsimp only
  rw [nI_clamp (by omega), mo_in hz]
  have : ms (M.2.2.1 15 z) (M.2.2.1 16 z) z = m15 M z z := rfl
  rw [this, s.2.1 z z hz hz]
theorem mq_value1 (q : MQ M A f n er) {y1 y2 : Int32} (h : p_MO_out y1 y2 = 1) : ∃ r, q_MO_value M y1 y2 = some r ∧ MQ r.2 A f n er ∧ r.2.1 11 = 1 := by
  refine ⟨(FP.i2d 0, mo_f (mo_f M 11 0) 11 1), ?_, (q.f11 0).f11 1, mo_f_at _ 11 1⟩
  unfold q_MO_value
  rw [h, if_neg (show ¬ (1 : Int32) = 0 by decide)]
  rfl
theorem mq_value2 (q : MQ M A f n er) {C W : Nat} (hC : C < 8) (hW : W < 10) (hA : A (W * 8 + C) = none) : ∃ r, q_MO_value M (nI C) (nI W) = some r ∧ MQ r.2 A f n er ∧ r.2.1 11 = 2 := by
  obtain ⟨i1, i2, i3, i4⟩ := idxM hC hW
  refine ⟨(FP.i2d 0, mo_f (mo_f M 11 0) 11 2), ?_, (q.f11 0).f11 2, mo_f_at _ 11 2⟩
  unfold q_MO_value
  rw [if_pos (out_in hC hW), i1, fs_okp_pos (show vp_in (nI (10 * C + W)) 81 from nI_in (by omega) (by decide)), i2, if_pos ((q.1.at0 i4).mpr (by rw [i3]; exact hA))]
  rfl
theorem mq_value (q : MQ M A f n er) (hs : shok A) {C W : Nat} (hC : C < 8) (hW : W < 10) (hA : A (W * 8 + C) ≠ none) : ∃ r, q_MO_value M (nI C) (nI W) = some r ∧ MQ r.2 A f n er ∧ (rea A (W * 8 + C) (W * 8 + C) = true → r.2.1 11 = 3) ∧ (rea A (W * 8 + C) (W * 8 + C) = false → val A (W * 8 + C) = none → r.2.1 11 = 4) ∧ (rea A (W * 8 + C) (W * 8 + C) = false → ∀ d, val A (W * 8 + C) = some d → r.2.1 11 = 0 ∧ r.1 = d) := by
  obtain ⟨i1, i2, i3, i4⟩ := idxM hC hW
  obtain ⟨M1, w1, w2, w3, w4⟩ := mq_work hs (q.f11 0)
  have ecirc := mo_circ w3 i4
  have ev := w3.2.2 _ i4 (by rw [i3]; exact hA)
  rw [i3] at ecirc ev
  have z80 : vp_in (nI (10 * C + W)) 80 := nI_in i4 (by decide)
  have start : q_MO_value M (nI C) (nI W) = (if bi (rea A (W * 8 + C) (W * 8 + C)) = 0 then (if M1.2.1 18 (10 * C + W) = 0 then some (M1.2.2.2 17 (10 * C + W), M1) else fs_let (p_MO_fail M1 4) (fun R1053 => some (FP.i2d R1053.1, R1053.2))) else fs_let (p_MO_fail M1 3) (fun R1054 => some (FP.i2d R1054.1, R1054.2))) := by
    unfold q_MO_value
    rw [if_pos (out_in hC hW), i1, fs_okp_pos (show vp_in (nI (10 * C + W)) 81 from nI_in (by omega) (by decide)), i2, if_neg (fun z => hA (by rw [← i3]; exact (q.1.at0 i4).mp z)), w1, Option.bind_some]
    try dsimp only
    rw [fs_okp_pos (show (0 ≤ (Int32.toInt (nI (10 * C + W)))) ∧ ((Int32.toInt (nI (10 * C + W))) < 80) from ⟨by rw [nI_toInt (by omega)]; omega, by rw [nI_toInt (by omega)]; omega⟩), ecirc, fs_okp_pos z80, fs_okp_pos z80]
  rw [start]
  unfold vM at ev
  cases er : rea A (W * 8 + C) (W * 8 + C) with
  | true =>
    rw [bi_1 rfl, if_neg (show ¬ (1 : Int32) = 0 by decide)]
    exact ⟨_, rfl, w2.f11 3, fun _ => mo_f_at _ 11 3, fun z => by cases z, fun z => by cases z⟩
  | false =>
    rw [bi_0 rfl, if_pos rfl]
    by_cases h18 : M1.2.1 18 (10 * C + W) = 0
    · rw [if_pos h18] at ev ⊢
      refine ⟨_, rfl, w2, fun z => by cases z, fun _ z => ?_, fun _ d z => ⟨w4.trans (mo_f_at M 11 0), ?_⟩⟩
      · rw [z] at ev
        cases ev
      · rw [z] at ev
        exact Option.some.inj ev
    · rw [if_neg h18] at ev ⊢
      refine ⟨_, rfl, w2.f11 4, fun z => by cases z, fun _ _ => mo_f_at _ 11 4, fun _ d z => ?_⟩
      rw [z] at ev
      cases ev
theorem mo_kind (hR : mR M A) (s : stM A M) {z : Nat} (hz : z < 80) : p_MO_kindOf M (nI z) = (kdA A (kap z), M) := by
  obtain ⟨h1, h2, h3⟩ := hR z hz
  unfold p_MO_kindOf kdA
  rw [nI_clamp (by omega), mo_circ s hz]
  match e : A (kap z) with
  | none =>
    rw [h1 e, if_neg (by decide)]
    rfl
  | some (.inl d) =>
    rw [(h2 d e).1, if_neg (by decide)]
    rfl
  | some (.inr L) =>
    have ev := s.2.2 z hz (by rw [e]; exact fun w => by cases w)
    unfold vM at ev
    rw [(h3 L e).1, if_pos (by decide)]
    unfold kdC
    dsimp only
    cases er : rea A (kap z) (kap z) with
    | true =>
      rw [bi_1 rfl, if_neg (show ¬ (1 : Int32) = 0 by decide), if_pos rfl]
    | false =>
      rw [bi_0 rfl, if_pos rfl, if_neg (by decide)]
      by_cases h18 : M.2.1 18 z = 0
      · rw [if_pos h18] at ev ⊢
        rw [if_neg (by rw [← ev]; exact fun w => by cases w)]
      · rw [if_neg h18] at ev ⊢
        rw [if_pos ev.symm]
theorem mq_kind1 (q : MQ M A f n er) {y1 y2 : Int32} (h : p_MO_out y1 y2 = 1) : ∃ r, q_MO_kind M y1 y2 = some r ∧ MQ r.2 A f n er ∧ r.2.1 11 = 1 := by
  refine ⟨(0, mo_f (mo_f M 11 0) 11 1), ?_, (q.f11 0).f11 1, mo_f_at _ 11 1⟩
  unfold q_MO_kind
  rw [h, if_neg (show ¬ (1 : Int32) = 0 by decide)]
  rfl
theorem mq_kind0 (q : MQ M A f n er) (hs : shok A) {C W : Nat} (hC : C < 8) (hW : W < 10) : ∃ r, q_MO_kind M (nI C) (nI W) = some r ∧ MQ r.2 A f n er ∧ r.2.1 11 = 0 ∧ r.1 = kdA A (W * 8 + C) := by
  obtain ⟨i1, i2, i3, i4⟩ := idxM hC hW
  obtain ⟨M1, w1, w2, w3, w4⟩ := mq_work hs (q.f11 0)
  refine ⟨(kdA A (W * 8 + C), M1), ?_, w2, w4.trans (mo_f_at M 11 0), rfl⟩
  unfold q_MO_kind
  rw [if_pos (out_in hC hW), w1, Option.bind_some]
  try dsimp only
  rw [i1, fs_okp_pos (show (0 ≤ (Int32.toInt (nI (10 * C + W)))) ∧ ((Int32.toInt (nI (10 * C + W))) < 80) from ⟨by rw [nI_toInt (by omega)]; omega, by rw [nI_toInt (by omega)]; omega⟩), mo_kind w2.1 w3 i4, i3]
theorem mq_reach1 (q : MQ M A f n er) {y1 y2 y3 y4 : Int32} (h : p_MO_out y1 y2 = 1 ∨ p_MO_out y3 y4 = 1) : ∃ r, q_MO_reaches M y1 y2 y3 y4 = some r ∧ MQ r.2 A f n er ∧ r.2.1 11 = 1 := by
  refine ⟨(0, mo_f (mo_f M 11 0) 11 1), ?_, (q.f11 0).f11 1, mo_f_at _ 11 1⟩
  unfold q_MO_reaches
  rcases out_or y1 y2 with e1 | e1
  · rw [if_pos e1]
    have e3 : p_MO_out y3 y4 = 1 := by
      rcases h with h | h
      · rw [e1] at h
        exact absurd h (by decide)
      · exact h
    rw [e3, if_neg (show ¬ (1 : Int32) = 0 by decide)]
  · rw [e1, if_neg (show ¬ (1 : Int32) = 0 by decide)]
theorem mq_reach0 (q : MQ M A f n er) (hs : shok A) {C W C' W' : Nat} (hC : C < 8) (hW : W < 10) (hC' : C' < 8) (hW' : W' < 10) : ∃ r, q_MO_reaches M (nI C) (nI W) (nI C') (nI W') = some r ∧ MQ r.2 A f n er ∧ r.2.1 11 = 0 ∧ r.1 = bi (rea A (W * 8 + C) (W' * 8 + C')) := by
  obtain ⟨i1, i2, i3, i4⟩ := idxM hC hW
  obtain ⟨j1, j2, j3, j4⟩ := idxM hC' hW'
  obtain ⟨M1, w1, w2, w3, w4⟩ := mq_work hs (q.f11 0)
  have z80 : vp_in (nI (10 * C + W)) 80 := nI_in i4 (by decide)
  have e : p_MO_in (M1.2.2.1 15 (10 * C + W)) (M1.2.2.1 16 (10 * C + W)) (nI (10 * C' + W')) = bi (rea A (W * 8 + C) (W' * 8 + C')) := by
    rw [mo_in j4]
    have : ms (M1.2.2.1 15 (10 * C + W)) (M1.2.2.1 16 (10 * C + W)) (10 * C' + W') = m15 M1 (10 * C + W) (10 * C' + W') := rfl
    rw [this, w3.2.1 _ _ i4 j4, i3, j3]
  refine ⟨(bi (rea A (W * 8 + C) (W' * 8 + C')), M1), ?_, w2, w4.trans (mo_f_at M 11 0), rfl⟩
  unfold q_MO_reaches
  rw [if_pos (out_in hC hW), if_pos (out_in hC' hW'), w1, Option.bind_some]
  try dsimp only
  rw [i1, j1, i2, e, fs_okp_pos z80, fs_okp_pos z80, fs_okp_pos (show bi (rea A (W * 8 + C) (W' * 8 + C')) = 0 ∨ bi (rea A (W * 8 + C) (W' * 8 + C')) = 1 by cases rea A (W * 8 + C) (W' * 8 + C') <;> decide)]
theorem mq_text1 (q : MQ M A f n er) {y1 y2 y3 : Int32} (h : p_MO_out y1 y2 = 1) : ∃ r, q_MO_text M y1 y2 y3 = some r ∧ MQ r.2 A f n er ∧ r.2.1 11 = 1 := by
  refine ⟨(0, mo_f (mo_f M 11 0) 11 1), ?_, (q.f11 0).f11 1, mo_f_at _ 11 1⟩
  unfold q_MO_text
  rw [h, if_neg (show ¬ (1 : Int32) = 0 by decide)]
  rfl
theorem mq_text2 (q : MQ M A f n er) {C W : Nat} {y3 : Int32} (hC : C < 8) (hW : W < 10) (hA : ∀ L, A (W * 8 + C) ≠ some (.inr L)) : ∃ r, q_MO_text M (nI C) (nI W) y3 = some r ∧ MQ r.2 A f n er ∧ r.2.1 11 = 2 := by
  obtain ⟨i1, i2, i3, i4⟩ := idxM hC hW
  have h2 : ¬ M.2.1 0 (10 * C + W) = 2 := by
    obtain ⟨h1, h2, h3⟩ := q.1 _ i4
    rw [i3] at h1 h2 h3
    match e : A (W * 8 + C) with
    | none => rw [h1 e]; decide
    | some (.inl d) => rw [(h2 d e).1]; decide
    | some (.inr L) => exact absurd e (hA L)
  refine ⟨(0, mo_f (mo_f M 11 0) 11 2), ?_, (q.f11 0).f11 2, mo_f_at _ 11 2⟩
  unfold q_MO_text
  rw [if_pos (out_in hC hW), i1, fs_okp_pos (show vp_in (nI (10 * C + W)) 81 from nI_in (by omega) (by decide)), i2, if_neg h2]
  rfl
theorem mq_text0 (q : MQ M A f n er) (hs : shok A) {C W : Nat} {y3 : Int32} (hC : C < 8) (hW : W < 10) {L : List It} (hA : A (W * 8 + C) = some (.inr L)) : ∃ r, q_MO_text M (nI C) (nI W) y3 = some r ∧ MQ r.2 A f n er ∧ r.2.1 11 = 0 ∧ r.1 = txc (tex L) y3 := by
  obtain ⟨i1, i2, i3, i4⟩ := idxM hC hW
  obtain ⟨h0, hcf⟩ := (q.1 _ i4).2.2 L (by rw [i3]; exact hA)
  obtain ⟨hfk, _, htx⟩ := (hs _ (show W * 8 + C < 80 by omega)).2 L hA
  obtain ⟨M', e1, e2⟩ := mo_text (x3 := y3) hC hW h0 hfk htx hcf q.2.2.2.2.2.1
  have q0 := q.f11 0
  refine ⟨(txc (tex L) y3, M'), e1, ?_, (e2.1 11 (by decide) (by decide)).trans (mo_f_at M 11 0), rfl⟩
  refine q0.eqv (fun j k hj => e2.2.1 j k (by omega) (by omega) (by omega)) e2.2.2 (e2.1 10 (by decide) (by decide)) (e2.1 12 (by decide) (by decide)) ((e2.1 9 (by decide) (by decide)).trans q0.2.2.2.2.2.2.1) q.2.2.2.2.2.2.2.1 fun i hi => ?_
  rw [e2.2.1 8 i (by decide) (by decide) (by decide)]
  exact q0.2.2.2.2.2.2.2.2 i hi
end
/-! Pure: the reference's counts. -/
theorem perm_sum {l1 l2 : List Nat} (h : l1.Perm l2) : l1.sum = l2.sum := by
  induction h with
  | nil => rfl
  | cons x _ ih => rw [List.sum_cons, List.sum_cons, ih]
  | swap x y l =>
    rw [List.sum_cons, List.sum_cons, List.sum_cons, List.sum_cons]
    omega
  | trans _ _ h1 h2 => exact h1.trans h2
theorem smr_sum (g : Nat → Nat) : ∀ m a, smr g m a = ((List.range m).map fun i => g (a + i)).sum := by
  intro m
  induction m with
  | zero => intro a; rfl
  | succ m ih =>
    intro a
    rw [smr, ih (a + 1), List.range_succ_eq_map, List.map_cons, List.sum_cons, List.map_map]
    have e : ((fun i => g (a + i)) ∘ Nat.succ) = fun i => g (a + 1 + i) := by
      funext i
      show g (a + (i + 1)) = g (a + 1 + i)
      rw [Nat.add_right_comm, ← Nat.add_assoc]
    rw [e, Nat.add_zero]
theorem smr_kap (g : Nat → Nat) : smr (fun z => g (kap z)) 80 0 = smr g 80 0 := by
  rw [smr_sum, smr_sum]
  have e1 : ((List.range 80).map fun i => g (kap (0 + i))) = ((List.range 80).map kap).map g := by
    rw [List.map_map]
    congr 1
    funext i
    rw [Nat.zero_add]
    rfl
  have e2 : ((List.range 80).map fun i => g (0 + i)) = (List.range 80).map g := by
    congr 1
    funext i
    rw [Nat.zero_add]
  rw [e1, e2]
  exact perm_sum (kap_perm.map g)
theorem smr_cfr (p : Nat → Bool) : ∀ m a, smr (fun z => if p z = true then 1 else 0) m a = cfr p m a := by
  intro m
  induction m with
  | zero => intro a; rfl
  | succ m ih =>
    intro a
    rw [smr, cfr, ih]
theorem kd1 (A : Shh) (k : Nat) : decide (0 < kdA A k) = (A k).isSome := by
  unfold kdA
  match e : A k with
  | none =>
    show decide ((0 : Int32) < 0) = false
    decide
  | some (.inl d) =>
    show decide ((0 : Int32) < 1) = true
    decide
  | some (.inr L) =>
    show decide ((0 : Int32) < if rea A k k = true then 4 else if val A k = none then 3 else 2) = true
    split
    · decide
    · split <;> decide
theorem kd2 (A : Shh) (k : Nat) : decide (1 < kdA A k) = (fmo (A k)).isSome := by
  unfold kdA
  match e : A k with
  | none =>
    show decide ((1 : Int32) < 0) = false
    decide
  | some (.inl d) =>
    show decide ((1 : Int32) < 1) = false
    decide
  | some (.inr L) =>
    show decide ((1 : Int32) < if rea A k k = true then 4 else if val A k = none then 3 else 2) = true
    split
    · decide
    · split <;> decide
theorem kd3 (A : Shh) (k : Nat) : decide (kdA A k = 4) = rea A k k := by
  unfold kdA
  cases er : rea A k k with
  | true =>
    obtain ⟨L, e⟩ := rea_f er
    rw [e]
    show decide ((if true = true then (4 : Int32) else if val A k = none then 3 else 2) = 4) = true
    rw [if_pos rfl]
    decide
  | false =>
    match e : A k with
    | none =>
      show decide ((0 : Int32) = 4) = false
      decide
    | some (.inl d) =>
      show decide ((1 : Int32) = 4) = false
      decide
    | some (.inr L) =>
      show decide ((if false = true then (4 : Int32) else if val A k = none then 3 else 2) = 4) = false
      rw [if_neg (by decide)]
      split <;> decide
theorem kd4 (A : Shh) (k : Nat) : decide (2 < kdA A k) = isB A k := by
  unfold kdA isB
  match e : A k with
  | none =>
    show decide ((2 : Int32) < 0) = false
    decide
  | some (.inl d) =>
    rw [val_num e]
    show decide ((2 : Int32) < 1) = false
    decide
  | some (.inr L) =>
    show decide ((2 : Int32) < if rea A k k = true then 4 else if val A k = none then 3 else 2) = (val A k).isNone
    by_cases er : rea A k k = true
    · rw [if_pos er, val_circ er]
      decide
    · rw [if_neg er]
      cases hv : val A k with
      | none =>
        rw [if_pos rfl]
        decide
      | some d =>
        rw [if_neg (fun w => by cases w)]
        show decide ((2 : Int32) < 2) = false
        decide
section
variable {M M' : mo_S} {A A' : Shh} {f f' : Nat → Int32} {n n' : Nat} {er : Int32}
theorem ct_L33 {y : Int32} {w : Nat → Nat} (step : ∀ z acc g, z < 80 → q_MO_count_L33 (g + 1) y (nI acc) (nI z) M = q_MO_count_L33 g y (nI (acc + w z)) (nI (z + 1)) M) : ∀ (m z acc g : Nat), z + m = 80 → m < g → q_MO_count_L33 g y (nI acc) (nI z) M = some (nI (acc + smr w m z), M) := by
  intro m
  induction m with
  | zero =>
    intro z acc g hz hg
    obtain ⟨g, rfl⟩ : ∃ p, g = p + 1 := ⟨g - 1, by omega⟩
    rw [q_MO_count_L33, if_pos (show (80 : Int32) ≤ nI z from nI_le (a := 80) (by omega) (by omega))]
    rfl
  | succ m ih =>
    intro z acc g hz hg
    obtain ⟨g, rfl⟩ : ∃ p, g = p + 1 := ⟨g - 1, by omega⟩
    rw [step z acc g (by omega), ih (z + 1) (acc + w z) g (by omega) (by omega), smr, Nat.add_assoc]
theorem ct_go {y kd : Int32} {z : Nat} {acc : Int32} {g : Nat} (hz : z < 80) (hk : p_MO_kindOf M (nI z) = (kd, M)) : q_MO_count_L33 (g + 1) y acc (nI z) M = (if y = 1 then (if 0 < kd then q_MO_count_L33_J89 (q_MO_count_L33 g) y acc (nI z) M else q_MO_count_L33_J56 (q_MO_count_L33 g) y acc (nI z) kd M) else q_MO_count_L33_J56 (q_MO_count_L33 g) y acc (nI z) kd M) := by
  rw [q_MO_count_L33, if_neg (show ¬ (80 : Int32) ≤ nI z from nI_ge (b := 80) hz (by decide)), fs_okp_pos (show (0 ≤ (Int32.toInt (nI z))) ∧ ((Int32.toInt (nI z)) < 80) from ⟨by rw [nI_toInt (by omega)]; omega, by rw [nI_toInt (by omega)]; omega⟩), hk]
theorem ct_92 {self : Int32 → Int32 → Int32 → mo_S → Option (Int32 × mo_S)} {y acc : Int32} {z : Nat} (hy : ¬ y = 5) : q_MO_count_L33_J92 self y acc (nI z) M = self y acc (nI (z + 1)) M := by
  unfold q_MO_count_L33_J92
  rw [if_neg hy, nI_1]
theorem ct_89 {self : Int32 → Int32 → Int32 → mo_S → Option (Int32 × mo_S)} {y : Int32} {acc z : Nat} (hy : ¬ y = 5) : q_MO_count_L33_J89 self y (nI acc) (nI z) M = self y (nI (acc + 1)) (nI (z + 1)) M := by
  unfold q_MO_count_L33_J89
  rw [ct_92 hy, nI_1]
theorem ct_1 {kd : Int32} {z acc g : Nat} (hz : z < 80) (hk : p_MO_kindOf M (nI z) = (kd, M)) : q_MO_count_L33 (g + 1) 1 (nI acc) (nI z) M = q_MO_count_L33 g 1 (nI (acc + if decide (0 < kd) = true then 1 else 0)) (nI (z + 1)) M := by
  rw [ct_go hz hk, if_pos rfl]
  by_cases h : 0 < kd
  · rw [if_pos h, if_pos (decide_eq_true h), ct_89 (by decide)]
  · rw [if_neg h, if_neg (fun z => h (of_decide_eq_true z)), Nat.add_zero]
    unfold q_MO_count_L33_J56 q_MO_count_L33_J67 q_MO_count_L33_J78
    rw [if_neg (by decide), if_neg (by decide), if_neg (by decide), ct_92 (by decide)]
theorem ct_2 {kd : Int32} {z acc g : Nat} (hz : z < 80) (hk : p_MO_kindOf M (nI z) = (kd, M)) : q_MO_count_L33 (g + 1) 2 (nI acc) (nI z) M = q_MO_count_L33 g 2 (nI (acc + if decide (1 < kd) = true then 1 else 0)) (nI (z + 1)) M := by
  rw [ct_go hz hk, if_neg (by decide)]
  unfold q_MO_count_L33_J56
  rw [if_pos rfl]
  by_cases h : 1 < kd
  · rw [if_pos h, if_pos (decide_eq_true h), ct_89 (by decide)]
  · rw [if_neg h, if_neg (fun z => h (of_decide_eq_true z)), Nat.add_zero]
    unfold q_MO_count_L33_J67 q_MO_count_L33_J78
    rw [if_neg (by decide), if_neg (by decide), ct_92 (by decide)]
theorem ct_3 {kd : Int32} {z acc g : Nat} (hz : z < 80) (hk : p_MO_kindOf M (nI z) = (kd, M)) : q_MO_count_L33 (g + 1) 3 (nI acc) (nI z) M = q_MO_count_L33 g 3 (nI (acc + if decide (kd = 4) = true then 1 else 0)) (nI (z + 1)) M := by
  rw [ct_go hz hk, if_neg (by decide)]
  unfold q_MO_count_L33_J56 q_MO_count_L33_J67
  rw [if_neg (by decide), if_pos rfl]
  by_cases h : kd = 4
  · rw [if_pos h, if_pos (decide_eq_true h), ct_89 (by decide)]
  · rw [if_neg h, if_neg (fun z => h (of_decide_eq_true z)), Nat.add_zero]
    unfold q_MO_count_L33_J78
    rw [if_neg (by decide), ct_92 (by decide)]
theorem ct_4 {kd : Int32} {z acc g : Nat} (hz : z < 80) (hk : p_MO_kindOf M (nI z) = (kd, M)) : q_MO_count_L33 (g + 1) 4 (nI acc) (nI z) M = q_MO_count_L33 g 4 (nI (acc + if decide (2 < kd) = true then 1 else 0)) (nI (z + 1)) M := by
  rw [ct_go hz hk, if_neg (by decide)]
  unfold q_MO_count_L33_J56 q_MO_count_L33_J67 q_MO_count_L33_J78
  rw [if_neg (by decide), if_neg (by decide), if_pos rfl]
  have e : (kd ≤ 2) ↔ ¬ (2 < kd) := by
    rw [Int32.le_iff_toInt_le, Int32.lt_iff_toInt_lt]
    omega
  by_cases h : 2 < kd
  · rw [if_neg (fun z => e.mp z h), if_pos (decide_eq_true h), ct_89 (by decide)]
  · rw [if_pos (e.mpr h), if_neg (fun z => h (of_decide_eq_true z)), Nat.add_zero, ct_92 (by decide)]
theorem ct_5 {kd : Int32} {z acc g l : Nat} (hz : z < 80) (hk : p_MO_kindOf M (nI z) = (kd, M)) (hsz : mo_sz M) (hl : (p_MO_lostNow M (nI z)).1 = nI l) : q_MO_count_L33 (g + 1) 5 (nI acc) (nI z) M = q_MO_count_L33 g 5 (nI (acc + l)) (nI (z + 1)) M := by
  rw [ct_go hz hk, if_neg (by decide)]
  unfold q_MO_count_L33_J56 q_MO_count_L33_J67 q_MO_count_L33_J78 q_MO_count_L33_J92
  rw [if_neg (by decide), if_neg (by decide), if_neg (by decide), if_pos rfl, fs_okp_pos (show (0 ≤ (Int32.toInt (nI z))) ∧ ((Int32.toInt (nI z)) < 80) ∧ (0 ≤ (Int32.toInt (M.2.1 1 (Int32.toNatClampNeg (nI z))))) ∧ ((Int32.toInt (M.2.1 1 (Int32.toNatClampNeg (nI z)))) ≤ 40) from ⟨by rw [nI_toInt (by omega)]; omega, by rw [nI_toInt (by omega)]; omega, (hsz _).1, (hsz _).2⟩), hl, nI_add, nI_1]
theorem cnt_sm {p q : Nat → Bool} (h : ∀ k, p k = q k) : smr (fun z => if p (kap z) = true then 1 else 0) 80 0 = cnt q := by
  rw [smr_cfr, cfr_80]
  have e : cnt (fun z => p (kap z)) = (List.range 80).countP (fun z => p (kap z)) := rfl
  rw [e, cnt_kap]
  exact cnt_eq fun i _ => h i
theorem mq_count (q : MQ M A f n er) (hs : shok A) (y : Int32) : ∃ r, q_MO_count M y = some r ∧ MQ r.2 A f n er ∧ r.1 = ctA A n y := by
  unfold q_MO_count ctA
  by_cases h0 : y = 0
  · rw [if_pos h0, if_pos h0]
    exact ⟨_, rfl, q.f11 0, q.2.2.2.2.2.2.1⟩
  rw [if_neg h0, if_neg h0]
  by_cases hneg : y < 0
  · rw [if_pos hneg]
    refine ⟨_, rfl, q.f11 0, ?_⟩
    have e : ∀ c : Int32, ¬ c < 0 → ¬ y = c := fun c hc z => hc (z ▸ hneg)
    rw [if_neg (e 1 (by decide)), if_neg (e 2 (by decide)), if_neg (e 3 (by decide)), if_neg (e 4 (by decide)), if_neg (e 5 (by decide))]
  rw [if_neg hneg]
  by_cases h5 : y ≤ 5
  · rw [if_pos h5]
    obtain ⟨M1, w1, w2, w3, w4⟩ := mq_work hs (q.f11 0)
    have hkd : ∀ z, z < 80 → p_MO_kindOf M1 (nI z) = (kdA A (kap z), M1) := fun z hz => mo_kind w2.1 w3 hz
    rw [w1, Option.bind_some]
    obtain ⟨j, hj, rfl⟩ := nI_of2 (M := 5) (n := 5) (by decide) hneg h5
    rcases (show j = 0 ∨ j = 1 ∨ j = 2 ∨ j = 3 ∨ j = 4 ∨ j = 5 by omega) with rfl | rfl | rfl | rfl | rfl | rfl
    · exact absurd rfl h0
    · have lp := ct_L33 (M := M1) (y := 1) (w := fun z => if decide (0 < kdA A (kap z)) = true then 1 else 0) (fun z acc g hz => ct_1 hz (hkd z hz)) 80 0 0 81 (by omega) (by omega)
      rw [Nat.zero_add, cnt_sm (kd1 A)] at lp
      have lp' : q_MO_count_L33 81 (nI 1) 0 0 M1 = some (nI (cnt (fun k => (A k).isSome)), M1) := lp
      rw [lp', Option.bind_some]
      exact ⟨_, rfl, w2, by rw [if_pos (show nI 1 = 1 from rfl)]⟩
    · have lp := ct_L33 (M := M1) (y := 2) (w := fun z => if decide (1 < kdA A (kap z)) = true then 1 else 0) (fun z acc g hz => ct_2 hz (hkd z hz)) 80 0 0 81 (by omega) (by omega)
      rw [Nat.zero_add, cnt_sm (kd2 A)] at lp
      have lp' : q_MO_count_L33 81 (nI 2) 0 0 M1 = some (nI (cnt (fun k => (fmo (A k)).isSome)), M1) := lp
      rw [lp', Option.bind_some]
      exact ⟨_, rfl, w2, by rw [if_neg (show ¬ nI 2 = 1 by decide), if_pos (show nI 2 = 2 from rfl)]⟩
    · have lp := ct_L33 (M := M1) (y := 3) (w := fun z => if decide (kdA A (kap z) = 4) = true then 1 else 0) (fun z acc g hz => ct_3 hz (hkd z hz)) 80 0 0 81 (by omega) (by omega)
      rw [Nat.zero_add, cnt_sm (p := fun k => decide (kdA A k = 4)) (kd3 A)] at lp
      have lp' : q_MO_count_L33 81 (nI 3) 0 0 M1 = some (nI (cnt (fun k => rea A k k)), M1) := lp
      rw [lp', Option.bind_some]
      exact ⟨_, rfl, w2, by rw [if_neg (show ¬ nI 3 = 1 by decide), if_neg (show ¬ nI 3 = 2 by decide), if_pos (show nI 3 = 3 from rfl)]⟩
    · have lp := ct_L33 (M := M1) (y := 4) (w := fun z => if decide (2 < kdA A (kap z)) = true then 1 else 0) (fun z acc g hz => ct_4 hz (hkd z hz)) 80 0 0 81 (by omega) (by omega)
      rw [Nat.zero_add, cnt_sm (kd4 A)] at lp
      have lp' : q_MO_count_L33 81 (nI 4) 0 0 M1 = some (nI (cnt (isB A)), M1) := lp
      rw [lp', Option.bind_some]
      exact ⟨_, rfl, w2, by rw [if_neg (show ¬ nI 4 = 1 by decide), if_neg (show ¬ nI 4 = 2 by decide), if_neg (show ¬ nI 4 = 3 by decide), if_pos (show nI 4 = 4 from rfl)]⟩
    · have lp := ct_L33 (M := M1) (y := 5) (w := fun z => lsC (A (kap z))) (fun z acc g hz => ct_5 hz (hkd z hz) w2.2.2.1 (mo_lostNow hz (w2.1.c hz) fun L hL => ((hs _ (kap_lt hz)).2 L hL).1)) 80 0 0 81 (by omega) (by omega)
      rw [Nat.zero_add, smr_kap (fun k => lsC (A k))] at lp
      have lp' : q_MO_count_L33 81 (nI 5) 0 0 M1 = some (nI (smr (fun k => lsC (A k)) 80 0), M1) := lp
      rw [lp', Option.bind_some]
      exact ⟨_, rfl, w2, by rw [if_neg (show ¬ nI 5 = 1 by decide), if_neg (show ¬ nI 5 = 2 by decide), if_neg (show ¬ nI 5 = 3 by decide), if_neg (show ¬ nI 5 = 4 by decide), if_pos (show nI 5 = 5 from rfl)]⟩
  · rw [if_neg h5]
    refine ⟨_, rfl, q.f11 0, ?_⟩
    have e : ∀ c : Int32, c ≤ 5 → ¬ y = c := fun c hc z => h5 (z ▸ hc)
    rw [if_neg (e 1 (by decide)), if_neg (e 2 (by decide)), if_neg (e 3 (by decide)), if_neg (e 4 (by decide)), if_neg (e 5 (by decide))]
end
/-! Pure: both sides as they begin. -/
theorem cl80 : Int32.toNatClampNeg 80 = 80 := by decide
theorem cl40 : Int32.toNatClampNeg 40 = 40 := by decide
theorem cl16 : Int32.toNatClampNeg 16 = 16 := by decide
theorem cl81 : Int32.toNatClampNeg 81 = 81 := by decide
theorem cl3240 : Int32.toNatClampNeg 3240 = 3240 := by decide
theorem cl24 : Int32.toNatClampNeg 24 = 24 := by decide
theorem cl44 : Int32.toNatClampNeg 44 = 44 := by decide
theorem cl8 : Int32.toNatClampNeg 8 = 8 := by decide
theorem cl400 : Int32.toNatClampNeg 400 = 400 := by decide
theorem cl1 : Int32.toNatClampNeg 1 = 1 := by decide
/-- an object that is being made: its fields, what was made for it -/
def inP (c : Nat) (h0 h : fs_Hp) (a : Nat) (fs : List Value) (D : List (Nat × va_E)) : Prop := h a = some (.inr (c, fs)) ∧ (D.map Prod.fst).Nodup ∧ (∀ p ∈ D, p.1 ≠ a ∧ h p.1 = some p.2 ∧ h0 p.1 = none) ∧ (∀ q, q ≠ a → h0 q ≠ none → h q = h0 q) ∧ h0 a ≠ none
theorem inP.z {c : Nat} {h : fs_Hp} {a : Nat} {fs : List Value} (e : h a = some (.inr (c, fs))) : inP c h h a fs [] := ⟨e, List.nodup_nil, fun p hp => (by cases hp), fun _ _ _ => rfl, by rw [e]; exact fun z => by cases z⟩
theorem inP.al {c : Nat} {h0 h : fs_Hp} {a b : Nat} {fs : List Value} {D : List (Nat × va_E)} {e : va_E} (i : inP c h0 h a fs D) (hb : h b = none) : inP c h0 (fs_up h b e) a fs ((b, e) :: D) := by
  obtain ⟨i1, i2, i3, i4, i5⟩ := i
  have hba : b ≠ a := fun z => by rw [z, i1] at hb; cases hb
  have h0b : h0 b = none := by
    cases e0 : h0 b with
    | none => rfl
    | some y =>
      have := i4 b hba (by rw [e0]; exact fun z => by cases z)
      rw [hb, e0] at this
      cases this
  refine ⟨(fs_up_ne (Ne.symm hba)).trans i1, ?_, fun p hp => ?_, fun q q1 q2 => ?_, i5⟩
  · rw [List.map_cons, List.nodup_cons]
    refine ⟨fun z => ?_, i2⟩
    obtain ⟨p, p1, p2⟩ := List.mem_map.mp z
    have := (i3 p p1).2.1
    rw [p2] at this
    have hb' : h b = none := hb
    rw [hb'] at this
    cases this
  · rcases List.mem_cons.mp hp with rfl | hp
    · exact ⟨hba, fs_up_self, h0b⟩
    · obtain ⟨p1, p2, p3⟩ := i3 p hp
      refine ⟨p1, (fs_up_ne fun z => ?_).trans p2, p3⟩
      rw [z, hb] at p2
      cases p2
  · exact (fs_up_ne fun z => q2 (z ▸ h0b)).trans (i4 q q1 q2)
theorem inP.pw {c : Nat} {h0 h : fs_Hp} {a k : Nat} {fs : List Value} {D : List (Nat × va_E)} {v : Value} {K : fs_Hp → Prop} (i : inP c h0 h a fs D) (hl : k < fs.length) (hK : ∀ h', inP c h0 h' a (fs.set k v) D → K h') : fs_pw h a c k v K := by
  obtain ⟨i1, i2, i3, i4, i5⟩ := i
  exact fs_pw_of i1 hl (hK _ ⟨fs_up_self, i2, fun p hp => ⟨(i3 p hp).1, (fs_up_ne (i3 p hp).1).trans (i3 p hp).2.1, (i3 p hp).2.2⟩, fun q q1 q2 => (fs_up_ne q1).trans (i4 q q1 q2), i5⟩)
theorem inP.si {c : Nat} {h0 h : fs_Hp} {a b n : Nat} {fs : List Value} {D : List (Nat × va_E)} {cA : ClassId} {g : Nat → Int32} {j x : Int32} {K : fs_Hp → Prop} (i : inP c h0 h a fs ((b, .inl (cA, n, .inl g)) :: D)) (hj : vp_in j n) (hK : ∀ h', inP c h0 h' a fs ((b, .inl (cA, n, .inl (upd g j.toNatClampNeg x))) :: D) → K h') : fs_si h b cA j x K := by
  obtain ⟨i1, i2, i3, i4, i5⟩ := i
  obtain ⟨b1, b2, b3⟩ := i3 _ List.mem_cons_self
  have nd := i2
  rw [List.map_cons, List.nodup_cons] at nd
  refine fs_si_of b2 hj (hK _ ⟨(fs_up_ne (Ne.symm b1)).trans i1, i2, fun p hp => ?_, fun q q1 q2 => (fs_up_ne fun z => q2 (z ▸ b3)).trans (i4 q q1 q2), i5⟩)
  rcases List.mem_cons.mp hp with rfl | hp
  · exact ⟨b1, fs_up_self, b3⟩
  · obtain ⟨p1, p2, p3⟩ := i3 p (List.mem_cons_of_mem _ hp)
    exact ⟨p1, (fs_up_ne fun z => nd.1 (List.mem_map.mpr ⟨p, hp, z⟩)).trans p2, p3⟩
/-! the class's cells -/
theorem ci_L56 {E : fs_E} {ce fil fo va re ga od : Nat} {h0 : fs_Hp} {K : Nat → Nat → fs_Hp → Prop} {Post : fs_Ps} (hr0 : h0 re ≠ none) : ∀ (m k : Nat) (h : fs_Hp) (rf : Nat → Option Nat) (bc bs : Nat), k + m = 80 → m ≤ bc → 2 * m ≤ bs → h ce = some (.inr (2, [.ref fil, .ref fo, .ref va, .ref re, .ref ga, .ref od, .int 0])) → h re = some (.inl (E.1.2 7, 80, .inr (.inr (.inr (.inr rf))))) → (∀ j, j < k → ∃ s, rf j = some s ∧ cset h s (fun _ => false)) → (∀ i j s, i < k → j < k → rf i = some s → rf j = some s → i = j) → (∀ q, q ≠ re → h0 q ≠ none → h q = h0 q) → (∀ h' rf' bc' bs', h' ce = some (.inr (2, [.ref fil, .ref fo, .ref va, .ref re, .ref ga, .ref od, .int 0])) → h' re = some (.inl (E.1.2 7, 80, .inr (.inr (.inr (.inr rf'))))) → (∀ j, j < 80 → ∃ s, rf' j = some s ∧ cset h' s (fun _ => false)) → rinj rf' → (∀ q, q ≠ re → h0 q ≠ none → h' q = h0 q) → K bc' bs' h') → w_CE_init_L56 E K Post (m + 1) ce (nI k) bc bs h := by
  intro m
  induction m with
  | zero =>
    intro k h rf bc bs hk hbc hbs h1 h2 h3 h4 h5 hK
    rw [w_CE_init_L56]
    try dsimp only
    rw [if_pos (show (80 : Int32) ≤ nI k from nI_le (a := 80) (by omega) (by omega))]
    have e : k = 80 := by omega
    rw [e] at h3 h4
    exact hK h rf bc bs h1 h2 h3 (fun i j s hi hj => h4 i j s hi hj) h5
  | succ m ih =>
    intro k h rf bc bs hk hbc hbs h1 h2 h3 h4 h5 hK
    rw [w_CE_init_L56]
    try dsimp only
    rw [if_neg (show ¬ (80 : Int32) ≤ nI k from nI_ge (b := 80) (by omega) (by decide)), nI_1]
    refine fs_gr_of h1 rfl ⟨by omega, by omega, fun s hs => fs_kv_of ⟨fs_isc_of fs_up_self, ?_⟩⟩
    have nr : re ≠ s := fun z => by rw [z, hs] at h2; cases h2
    have nc : ce ≠ s := fun z => by rw [z, hs] at h1; cases h1
    have ncr : ce ≠ re := fun z => by rw [z, h2] at h1; cases h1
    refine fs_sq_of (fs_up_at nr h2) (nI_in (by omega) (by decide)) ?_
    rw [nI_clamp (by omega)]
    have old : ∀ t p, cset h t p → cset (fs_up (fs_up h s (.inr (3, [.long 0, .long 0]))) re (.inl (E.1.2 7, 80, .inr (.inr (.inr (.inr (va_up rf k (some s)))))))) t p := fun t p c => by
      obtain ⟨lo, hi, e1, e2⟩ := c
      exact ⟨lo, hi, fs_up_at (fun z => by rw [z, h2] at e1; cases e1) (fs_up_at (fun z => by rw [z, hs] at e1; cases e1) e1), e2⟩
    refine ih (k + 1) _ (va_up rf k (some s)) (bc - 1) (bs - 2) (by omega) (by omega) (by omega) (fs_up_at ncr (fs_up_at nc h1)) fs_up_self (fun j hj => ?_) (fun i j t hi hj ei ej => ?_) (fun q q1 q2 => ?_) hK
    · rw [va_up_at]
      by_cases z : j = k
      · rw [if_pos z]
        exact ⟨s, rfl, cset_new.kept (fs_up_ne (Ne.symm nr))⟩
      · rw [if_neg z]
        obtain ⟨t, t1, t2⟩ := h3 j (by omega)
        exact ⟨t, t1, old t _ t2⟩
    · rw [va_up_at] at ei ej
      have fresh : ∀ j, j < k → rf j ≠ some s := fun j hj z => by
        obtain ⟨t, t1, lo, hi, t2, _⟩ := h3 j hj
        rw [z] at t1
        cases t1
        rw [hs] at t2
        cases t2
      by_cases z1 : i = k
      · rw [if_pos z1] at ei
        cases ei
        by_cases z2 : j = k
        · rw [z1, z2]
        · rw [if_neg z2] at ej
          exact absurd ej (fresh j (by omega))
      · rw [if_neg z1] at ei
        by_cases z2 : j = k
        · rw [if_pos z2] at ej
          cases ej
          exact absurd ei (fresh i (by omega))
        · rw [if_neg z2] at ej
          exact h4 i j t (by omega) (by omega) ei ej
    · have : q ≠ s := fun z => by
        have := h5 q q1 q2
        rw [z, hs] at this
        exact q2 (by rw [z]; exact this.symm)
      rw [fs_up_ne q1, fs_up_ne this]
      exact h5 q q1 q2
theorem ce_init {E : fs_E} {h : fs_Hp} {ce mc ms : Nat} {Post : fs_Ps} (hce : h ce = some (.inr (2, [.null, .null, .null, .null, .null, .null, .int 0]))) (hm : 86 ≤ mc) (hs : 640 ≤ ms) (K : ∀ h' fil fo va re ga od rf, csr E h' ce fil fo va re ga od 0 (fun _ => 0) (fun _ => 0) (fun _ => none) rf (fun _ => 0) → rinj rf → rset h' rf (fun _ _ => false) → (∀ q, q ≠ ce → h q ≠ none → h' q = h q) → h fil = none → h od = none → Post (.inl none) h') : w_CE_init mc ms E h ce Post := by
  unfold w_CE_init
  rw [cl80]
  refine ⟨by decide, by decide, by omega, by omega, fun a1 n1 => ?_⟩
  refine ((inP.z hce).al n1).pw (Nat.le_of_ble_eq_true rfl) fun h1 i1 => ⟨by decide, by decide, by omega, by omega, fun a2 n2 => ?_⟩
  refine (i1.al n2).pw (Nat.le_of_ble_eq_true rfl) fun h2 i2 => ⟨by decide, by decide, by omega, by omega, fun a3 n3 => ?_⟩
  refine (i2.al n3).pw (Nat.le_of_ble_eq_true rfl) fun h3 i3 => ⟨by decide, by decide, by omega, by omega, fun a4 n4 => ?_⟩
  refine (i3.al n4).pw (Nat.le_of_ble_eq_true rfl) fun h4 i4 => ⟨by decide, by decide, by omega, by omega, fun a5 n5 => ?_⟩
  refine (i4.al n5).pw (Nat.le_of_ble_eq_true rfl) fun h5 i5 => ⟨by decide, by decide, by omega, by omega, fun a6 n6 => ?_⟩
  refine (i5.al n6).pw (Nat.le_of_ble_eq_true rfl) fun h6 i6 => ⟨80 + 1, ?_⟩
  obtain ⟨j1, j2, j3, j4, j5⟩ := i6
  have f1 := j3 (a1, _) (List.mem_cons_of_mem _ (List.mem_cons_of_mem _ (List.mem_cons_of_mem _ (List.mem_cons_of_mem _ (List.mem_cons_of_mem _ List.mem_cons_self)))))
  have f2 := j3 (a2, _) (List.mem_cons_of_mem _ (List.mem_cons_of_mem _ (List.mem_cons_of_mem _ (List.mem_cons_of_mem _ List.mem_cons_self))))
  have f3 := j3 (a3, _) (List.mem_cons_of_mem _ (List.mem_cons_of_mem _ (List.mem_cons_of_mem _ List.mem_cons_self)))
  have f4 := j3 (a4, _) (List.mem_cons_of_mem _ (List.mem_cons_of_mem _ List.mem_cons_self))
  have f5 := j3 (a5, _) (List.mem_cons_of_mem _ List.mem_cons_self)
  have f6 := j3 (a6, _) List.mem_cons_self
  dsimp only at f1 f2 f3 f4 f5 f6
  have nd : [a6, a5, a4, a3, a2, a1].Nodup := j2
  have hne : ∀ q e, h6 q = some e → h6 q ≠ none := fun q e z => by rw [z]; exact fun w => by cases w
  refine ci_L56 (h0 := h6) (hne _ _ f4.2.1) 80 0 h6 (fun _ => none) _ _ (by omega) (by omega) (by omega) j1 f4.2.1 (fun j hj => absurd hj (Nat.not_lt_zero j)) (fun i j s hi => absurd hi (Nat.not_lt_zero i)) (fun _ _ _ => rfl) fun h' rf' bc' bs' k1 k2 k3 k4 k5 => ?_
  have d45 : a4 ≠ a5 := fun z => by simp [z] at nd
  have d53 : a5 ≠ a3 := fun z => by simp [z] at nd
  have d24 : a2 ≠ a4 := fun z => by simp [z] at nd
  have d16 : a1 ≠ a6 := fun z => by simp [z] at nd
  have d14 : a1 ≠ a4 := fun z => by simp [z] at nd
  have d34 : a3 ≠ a4 := fun z => by simp [z] at nd
  have d64 : a6 ≠ a4 := fun z => by simp [z] at nd
  refine K h' a1 a2 a3 a4 a5 a6 rf' ⟨⟨k1, (k5 a1 d14 (hne _ _ f1.2.1)).trans f1.2.1, (k5 a3 d34 (hne _ _ f3.2.1)).trans f3.2.1, d53, fun k _ => nb_0.nn⟩, ⟨fun _ => 0, (k5 a5 (Ne.symm d45) (hne _ _ f5.2.1)).trans f5.2.1⟩, (k5 a2 d24 (hne _ _ f2.2.1)).trans f2.2.1, k2, (k5 a6 d64 (hne _ _ f6.2.1)).trans f6.2.1, d24, d16⟩ k4 k3 (fun q q1 q2 => ?_) f1.2.2 f6.2.2
  by_cases z : q = a4
  · rw [z] at q2
    exact absurd f4.2.2 q2
  · have e6 := j4 q q1 q2
    exact (k5 q z (by rw [e6]; exact q2)).trans e6
theorem sh_init {E : fs_E} {h : fs_Hp} {x mc ms : Nat} {Post : fs_Ps} (hx : h x = some (.inr (0, [.null, .null, .null, .int 0]))) (hm : 100 ≤ mc) (hs : 800 ≤ ms) (K : ∀ h', CI E (fun _ => False) h' x (fun _ => none) (fun _ => 0) 0 (-1) → Post (.inl none) h') : w_SH_init mc ms E h x Post := by
  refine ⟨by omega, by omega, fun ln n1 => ⟨1, 40, by omega, by omega, ?_⟩⟩
  have nl : x ≠ ln := fun z => by rw [z, n1] at hx; cases hx
  unfold w_LN_init
  rw [cl40]
  refine ⟨by decide, by decide, by omega, by omega, fun ch n2 => ?_⟩
  have ncl : ch ≠ ln := fun z => by rw [z, fs_up_self] at n2; cases n2
  have hch : h ch = none := (fs_up_ne ncl).symm.trans n2
  have ncx : ch ≠ x := fun z => by rw [z, hx] at hch; cases hch
  refine fs_pw_of (fs_up_at (Ne.symm ncl) fs_up_self) (Nat.le_of_ble_eq_true rfl) (fs_kv_of ?_)
  refine fs_pw_of (fs_up_at nl (fs_up_at (Ne.symm ncx) (fs_up_at nl hx))) (Nat.le_of_ble_eq_true rfl) ⟨by omega, by omega, fun ce n3 => ⟨86, 640, by omega, by omega, ?_⟩⟩
  have hH : ∃ H, H = fs_up (fs_up (fs_up (fs_up h ln (.inr (1, [.null, .int 0, .int 0, .int 0]))) ch (.inl (E.1.2 4, 40, .inl (fun _ : Nat => (0 : Int32))))) ln (.inr (1, [.ref ch, .int 0, .int 0, .int 0]))) x (.inr (0, [.ref ln, .null, .null, .int 0])) := ⟨_, rfl⟩
  obtain ⟨H, eH⟩ := hH
  have Hx : H x = some (.inr (0, [.ref ln, .null, .null, .int 0])) := by rw [eH]; exact fs_up_self
  have Hl : H ln = some (.inr (1, [.ref ch, .int 0, .int 0, .int 0])) := by rw [eH]; exact fs_up_at (Ne.symm nl) fs_up_self
  have Hc : H ch = some (.inl (E.1.2 4, 40, .inl (fun _ => 0))) := by rw [eH]; exact fs_up_at ncx (fs_up_at ncl fs_up_self)
  have n3' : H ce = none := by rw [eH]; exact n3
  have nce : ∀ q e, H q = some e → q ≠ ce := fun q e z w => by rw [w, n3'] at z; cases z
  have goal : w_CE_init 86 640 E (fs_up H ce (.inr (2, [.null, .null, .null, .null, .null, .null, .int 0]))) ce (fs_kv (fun h111 => fs_pw h111 x 0 1 (.ref ce) (fun h112 => 1 ≤ ((((mc - 1) - 1) - 1) - 86) ∧ 4 ≤ ((((ms - 4) - 40) - 7) - 640) ∧ ∀ a113 : Nat, h112 a113 = none → (fun h114 : fs_Hp => ∃ c115 s116 : Nat, c115 ≤ (((((mc - 1) - 1) - 1) - 86) - 1) ∧ s116 ≤ (((((ms - 4) - 40) - 7) - 640) - 4) ∧ (w_SB_init c115 s116 E h114 a113 (fs_kv (fun h117 => fs_pw h117 x 0 2 (.ref a113) (fun h118 => fs_pw h118 x 0 3 (.int (-1)) (fun h119 => Post (.inl none) h119))) (fun C_ h_ => Post (.inr C_) h_)))) (fs_up h112 a113 (.inr (11, [.null, .int 0, .int 0, .int 0]))))) (fun C_ h_ => Post (.inr C_) h_)) := by
    refine ce_init fs_up_self (Nat.le_refl _) (Nat.le_refl _) fun h1 fil fo va re ga od rf c1 c2 c3 c4 c5 c6 => fs_kv_of ?_
    have up : ∀ q e, H q = some e → h1 q = some e := fun q e z => by
      have := nce q e z
      rw [c4 q this (by rw [fs_up_ne this, z]; exact fun w => by cases w), fs_up_ne this]
      exact z
    have ne1 : ∀ q e, h1 q = some e → h1 q ≠ none := fun q e z => by rw [z]; exact fun w => by cases w
    have nfo : ∀ q e, H q = some e → q ≠ fil ∧ q ≠ od := fun q e z => by
      have := nce q e z
      constructor
      · intro w
        rw [← w, fs_up_ne this, z] at c5
        cases c5
      · intro w
        rw [← w, fs_up_ne this, z] at c6
        cases c6
    refine fs_pw_of (up x _ Hx) (Nat.le_of_ble_eq_true rfl) ⟨by omega, by omega, fun sb n4 => ⟨1, 16, by omega, by omega, 1, 16, Nat.le_refl _, Nat.le_refl _, ?_⟩⟩
    have hH2 : ∃ H2, H2 = fs_up h1 x (.inr (0, [.ref ln, .ref ce, .null, .int 0])) := ⟨_, rfl⟩
    obtain ⟨H2, eH2⟩ := hH2
    have n4' : H2 sb = none := by rw [eH2]; exact n4
    have H2o : ∀ q, q ≠ x → H2 q = h1 q := fun q hq => by rw [eH2, fs_up_ne hq]
    have H2x : H2 x = some (.inr (0, [.ref ln, .ref ce, .null, .int 0])) := by rw [eH2]; exact fs_up_self
    have nsx : sb ≠ x := fun z => by rw [z, H2x] at n4'; cases n4'
    have goal2 : w_AB_init 1 16 E (fs_up H2 sb (.inr (11, [.null, .int 0, .int 0, .int 0]))) sb 16 (fs_kv (fun h103 => (fs_kv (fun h117 => fs_pw h117 x 0 2 (.ref sb) (fun h118 => fs_pw h118 x 0 3 (.int (-1)) (fun h119 => Post (.inl none) h119))) (fun C_ h_ => Post (.inr C_) h_)) (.inl none) h103) (fun C_ h_ => (fs_kv (fun h117 => fs_pw h117 x 0 2 (.ref sb) (fun h118 => fs_pw h118 x 0 3 (.int (-1)) (fun h119 => Post (.inl none) h119))) (fun C_ h_ => Post (.inr C_) h_)) (.inr C_) h_)) := by
      unfold w_AB_init
      rw [cl16]
      refine ⟨by decide, by decide, by omega, by omega, fun v n5 => ?_⟩
      have nvs : v ≠ sb := fun z => by rw [z, fs_up_self] at n5; cases n5
      have hv2 : H2 v = none := (fs_up_ne nvs).symm.trans n5
      have nvx : v ≠ x := fun z => by rw [z, H2x] at hv2; cases hv2
      refine fs_pw_of (fs_up_at (Ne.symm nvs) fs_up_self) (Nat.le_of_ble_eq_true rfl) (fs_pw_of fs_up_self (Nat.le_of_ble_eq_true rfl) (fs_kv_of (fs_kv_of ?_)))
      refine fs_pw_of (fs_up_at (Ne.symm nsx) (fs_up_at (Ne.symm nsx) (fs_up_at (Ne.symm nvx) (fs_up_at (Ne.symm nsx) H2x)))) (Nat.le_of_ble_eq_true rfl) (fs_pw_of fs_up_self (Nat.le_of_ble_eq_true rfl) ?_)
      have hH3 : ∃ H3, H3 = fs_up (fs_up (fs_up (fs_up (fs_up (fs_up H2 sb (.inr (11, [.null, .int 0, .int 0, .int 0]))) v (.inl (E.1.2 5, 16, .inl (fun _ : Nat => (0 : Int32))))) sb (.inr (11, [.ref v, .int 0, .int 0, .int 0]))) sb (.inr (11, [.ref v, .int 0, .int 0, .int 0]))) x (.inr (0, [.ref ln, .ref ce, .ref sb, .int 0]))) x (.inr (0, [.ref ln, .ref ce, .ref sb, .int (-1)])) := ⟨_, rfl⟩
      obtain ⟨H3, eH3⟩ := hH3
      have H3x : H3 x = some (.inr (0, [.ref ln, .ref ce, .ref sb, .int (-1)])) := by rw [eH3]; exact fs_up_self
      have H3s : H3 sb = some (.inr (11, [.ref v, .int 0, .int 0, .int 0])) := by rw [eH3]; exact fs_up_at nsx (fs_up_at nsx fs_up_self)
      have H3v : H3 v = some (.inl (E.1.2 5, 16, .inl (fun _ => 0))) := by rw [eH3]; exact fs_up_at nvx (fs_up_at nvx (fs_up_at nvs (fs_up_at nvs fs_up_self)))
      have H3o : ∀ q e, q ≠ x → h1 q = some e → H3 q = some e := fun q e q1 z => by
        have w2 : H2 q = some e := (H2o q q1).trans z
        have q2 : q ≠ sb := fun w => by rw [w, n4'] at w2; cases w2
        have q3 : q ≠ v := fun w => by rw [w, hv2] at w2; cases w2
        rw [eH3]
        exact fs_up_at q1 (fs_up_at q1 (fs_up_at q2 (fs_up_at q2 (fs_up_at q3 (fs_up_at q2 w2)))))
      have nvo : ∀ q e, q ≠ x → h1 q = some e → q ≠ v := fun q e q1 z w => by
        have w2 : H2 q = some e := (H2o q q1).trans z
        rw [w, hv2] at w2
        cases w2
      obtain ⟨⟨d1, d2, d3, d4, d5⟩, ⟨gf, d6⟩, d7, d8, d9, d10, d11⟩ := c1
      unfold gaF at d6
      have hx1 := up x _ Hx
      have kx : ∀ q e, h1 q = some e → knd (some e) ≠ 10 → q ≠ x := fun q e z w1 w2 => by
        rw [w2, hx1] at z
        cases z
        exact w1 rfl
      have cl : clL E H3 (fun _ => none) ce fil fo va re ga od 0 (fun _ => 0) (fun _ => 0) (fun _ => none) rf (fun _ => 0) (fun _ => []) := by
        refine ⟨⟨⟨H3o ce _ (kx _ _ d1 (by decide)) d1, H3o fil _ (kx _ _ d2 (by rw [knd_i]; decide)) d2, H3o va _ (kx _ _ d3 (by rw [knd_d]; decide)) d3, d4, d5⟩, ⟨gf, H3o ga _ (kx _ _ d6 (by rw [knd_d]; decide)) d6⟩, H3o fo _ (kx _ _ d7 (by rw [knd_r]; decide)) d7, H3o re _ (kx _ _ d8 (by rw [knd_r]; decide)) d8, H3o od _ (kx _ _ d9 (by rw [knd_i]; decide)) d9, d10, d11⟩, fun k hk => ⟨fun L z => by cases z, fun _ => rfl⟩, c2, ⟨fun _ _ => false, fun k hk => ?_⟩, fun k hk => ⟨fun _ => ⟨rfl, rfl⟩, fun d z => by cases z, fun L z => by cases z⟩, fun k hk L z => by cases z⟩
        obtain ⟨s, s1, lo, hi, s2, s3⟩ := c3 k hk
        exact ⟨s, s1, lo, hi, H3o s _ (kx _ _ s2 (by decide)) s2, s3⟩
      have nlx : ln ≠ x := Ne.symm nl
      have nlf := nfo ch _ Hc
      have final : CIx E (fun _ => False) H3 x (fun _ => none) (fun _ => 0) 0 (-1) ln ch ce fil fo va re ga od sb v 16 [] 0 0 0 (fun _ => 0) (fun _ => 0) (fun _ => none) rf (fun _ => 0) (fun _ => []) := by
        refine ⟨⟨H3x, H3o ln _ nlx (up ln _ Hl), H3o ch _ ncx (up ch _ Hc), Nat.zero_le _, fun i hi => absurd hi (Nat.not_lt_zero i)⟩, cl, ⟨fun k hk L z => (by cases z), fun k j hk hj hkj fk => (by obtain ⟨L, z⟩ := fk; cases z)⟩, Or.inl rfl, ⟨⟨fun _ => 0, 0, H3s, H3v, Nat.zero_le _, by omega, fun i hi => ⟨0, by omega, rfl⟩, fun i c hi => by cases hi⟩, by omega⟩, ⟨nlf.1, nlf.2, nvo ch _ ncx (up ch _ Hc), nvo fil _ (kx _ _ d2 (by rw [knd_i]; decide)) d2, nvo od _ (kx _ _ d9 (by rw [knd_i]; decide)) d9⟩, fun q hq => hq.elim⟩
      have fin := K H3 final.ci
      rw [eH3] at fin
      exact fin
    rw [eH2] at goal2
    exact goal2
  rw [eH] at goal
  exact goal

def nmF : Nat → Int32 := upd (upd (upd (upd (upd (upd (upd (upd (upd (upd (upd (upd (upd (upd (upd (upd (upd (upd (upd (upd (upd (upd (upd (upd (fun _ => 0) 0 115) 1 117) 2 109) 3 109) 4 105) 5 110) 6 109) 7 97) 8 120) 9 99) 10 110) 11 116) 12 97) 13 118) 14 103) 15 97) 16 98) 17 115) 18 105) 19 110) 20 116) 21 105) 22 102) 23 0
def moZ : mo_S := (fun j => if j = 10 then -1 else if j = 12 then 1 else 0, fun j => if j = 7 then nmF else fun _ => 0, fun _ _ => 0, fun _ _ => 0)
theorem moZ_names : pm_names moZ := by
  unfold pm_names
  decide +kernel
theorem mq_init : MQ moZ (fun _ => none) (fun _ => 0) 0 (-1) := ⟨fun z hz => ⟨fun _ => rfl, fun d e => (by cases e), fun L e => (by cases e)⟩, fun k _ => Or.inl rfl, fun k => (by show 0 ≤ Int32.toInt 0 ∧ Int32.toInt 0 ≤ 40; decide), fun e => absurd e (show ¬ (1 : Int32) = 0 by decide), rfl, moZ_names, rfl, Nat.zero_le _, fun i hi => absurd hi (Nat.not_lt_zero i)⟩
def ixM : Nat → Nat := fun k => match k with
  | 0 => 24
  | 1 => 23
  | 2 => 22
  | 3 => 21
  | 4 => 20
  | 5 => 19
  | 6 => 18
  | 7 => 17
  | 8 => 16
  | 13 => 15
  | 14 => 14
  | 15 => 13
  | 16 => 12
  | 17 => 11
  | 18 => 10
  | 19 => 9
  | 20 => 8
  | 21 => 7
  | 25 => 6
  | 26 => 5
  | 27 => 4
  | 28 => 3
  | 31 => 2
  | 32 => 1
  | 33 => 0
  | _ => 99
theorem mo_ar_lt {j : Nat} (h : mo_ar j ≠ none) : j < 36 := by
  unfold mo_ar at h
  split at h <;> first | omega | exact absurd rfl h
theorem ixM_inj : ∀ i, i < 36 → ∀ j, j < 36 → mo_ar i ≠ none → mo_ar j ≠ none → ixM i = ixM j → i = j := by decide +kernel
theorem ixM_lt : ∀ i, i < 36 → mo_ar i ≠ none → ixM i < 25 := by decide +kernel
theorem getD_inj {l : List Nat} (hn : l.Nodup) {i j : Nat} (hi : i < l.length) (hj : j < l.length) (e : l.getD i 0 = l.getD j 0) : i = j := by
  rw [List.getD_eq_getElem?_getD, List.getD_eq_getElem?_getD, List.getElem?_eq_getElem hi, List.getElem?_eq_getElem hj] at e
  exact (List.getElem_inj hn).mp e
theorem mo_made {E : fs_E} {h0 h : fs_Hp} {a : Nat} {b0 b1 b2 b3 b4 b5 b6 b7 b8 b13 b14 b15 b16 b17 b18 b19 b20 b21 b25 b26 b27 b28 b31 b32 b33 : Nat} (i : inP 10 h0 h a [.ref b0, .ref b1, .ref b2, .ref b3, .ref b4, .ref b5, .ref b6, .ref b7, .ref b8, .int 0, .int (-1), .int 0, .int 1, .ref b13, .ref b14, .ref b15, .ref b16, .ref b17, .ref b18, .ref b19, .ref b20, .ref b21, .int 0, .int 0, .int 0, .ref b25, .ref b26, .ref b27, .ref b28, .int 0, .int 0, .ref b31, .ref b32, .ref b33, .int 0, .int 0] [(b33, .inl (E.1.2 0, 44, .inl (fun _ : Nat => (0 : Int32)))), (b32, .inl (E.1.2 0, 44, .inl (fun _ : Nat => (0 : Int32)))), (b31, .inl (E.1.2 0, 400, .inl (fun _ : Nat => (0 : Int32)))), (b28, .inl (E.1.2 0, 44, .inl (fun _ : Nat => (0 : Int32)))), (b27, .inl (E.1.2 3, 8, .inl (fun _ : Nat => (0 : Int32)))), (b26, .inl (E.1.2 0, 8, .inl (fun _ : Nat => (0 : Int32)))), (b25, .inl (E.1.2 0, 8, .inl (fun _ : Nat => (0 : Int32)))), (b21, .inl (E.1.2 3, 44, .inl (fun _ : Nat => (0 : Int32)))), (b20, .inl (E.1.2 2, 44, .inr (.inr (.inr (.inl (fun _ : Nat => (0 : UInt64))))))), (b19, .inl (E.1.2 3, 80, .inl (fun _ : Nat => (0 : Int32)))), (b18, .inl (E.1.2 3, 80, .inl (fun _ : Nat => (0 : Int32)))), (b17, .inl (E.1.2 2, 80, .inr (.inr (.inr (.inl (fun _ : Nat => (0 : UInt64))))))), (b16, .inl (E.1.2 1, 80, .inr (.inl (fun _ : Nat => (0 : Int64))))), (b15, .inl (E.1.2 1, 80, .inr (.inl (fun _ : Nat => (0 : Int64))))), (b14, .inl (E.1.2 1, 80, .inr (.inl (fun _ : Nat => (0 : Int64))))), (b13, .inl (E.1.2 1, 80, .inr (.inl (fun _ : Nat => (0 : Int64))))), (b8, .inl (E.1.2 0, 40, .inl (fun _ : Nat => (0 : Int32)))), (b7, .inl (E.1.2 0, 24, .inl nmF)), (b6, .inl (E.1.2 1, 3240, .inr (.inl (fun _ : Nat => (0 : Int64))))), (b5, .inl (E.1.2 0, 3240, .inl (fun _ : Nat => (0 : Int32)))), (b4, .inl (E.1.2 0, 3240, .inl (fun _ : Nat => (0 : Int32)))), (b3, .inl (E.1.2 0, 3240, .inl (fun _ : Nat => (0 : Int32)))), (b2, .inl (E.1.2 2, 81, .inr (.inr (.inr (.inl (fun _ : Nat => (0 : UInt64))))))), (b1, .inl (E.1.2 0, 81, .inl (fun _ : Nat => (0 : Int32)))), (b0, .inl (E.1.2 0, 81, .inl (fun _ : Nat => (0 : Int32))))]) : ∃ ad, mo_at E.1 h a ad moZ ∧ ∀ j, mo_ar j ≠ none → h0 (ad j) = none := by
  obtain ⟨j1, j2, j3, j4, j5⟩ := i
  refine ⟨fun j => [b33, b32, b31, b28, b27, b26, b25, b21, b20, b19, b18, b17, b16, b15, b14, b13, b8, b7, b6, b5, b4, b3, b2, b1, b0].getD (ixM j) 0, ⟨j1, fun j t n hj => ?_, fun i j hi hj e => ?_⟩, fun j hj => ?_⟩
  · unfold mo_ar at hj
    split at hj
    · cases hj
      exact (j3 (b0, .inl (E.1.2 0, 81, .inl (fun _ : Nat => (0 : Int32)))) (by repeat (first | exact List.mem_cons_self | apply List.mem_cons_of_mem))).2.1
    · cases hj
      exact (j3 (b1, .inl (E.1.2 0, 81, .inl (fun _ : Nat => (0 : Int32)))) (by repeat (first | exact List.mem_cons_self | apply List.mem_cons_of_mem))).2.1
    · cases hj
      exact (j3 (b2, .inl (E.1.2 2, 81, .inr (.inr (.inr (.inl (fun _ : Nat => (0 : UInt64))))))) (by repeat (first | exact List.mem_cons_self | apply List.mem_cons_of_mem))).2.1
    · cases hj
      exact (j3 (b3, .inl (E.1.2 0, 3240, .inl (fun _ : Nat => (0 : Int32)))) (by repeat (first | exact List.mem_cons_self | apply List.mem_cons_of_mem))).2.1
    · cases hj
      exact (j3 (b4, .inl (E.1.2 0, 3240, .inl (fun _ : Nat => (0 : Int32)))) (by repeat (first | exact List.mem_cons_self | apply List.mem_cons_of_mem))).2.1
    · cases hj
      exact (j3 (b5, .inl (E.1.2 0, 3240, .inl (fun _ : Nat => (0 : Int32)))) (by repeat (first | exact List.mem_cons_self | apply List.mem_cons_of_mem))).2.1
    · cases hj
      exact (j3 (b6, .inl (E.1.2 1, 3240, .inr (.inl (fun _ : Nat => (0 : Int64))))) (by repeat (first | exact List.mem_cons_self | apply List.mem_cons_of_mem))).2.1
    · cases hj
      exact (j3 (b7, .inl (E.1.2 0, 24, .inl nmF)) (by repeat (first | exact List.mem_cons_self | apply List.mem_cons_of_mem))).2.1
    · cases hj
      exact (j3 (b8, .inl (E.1.2 0, 40, .inl (fun _ : Nat => (0 : Int32)))) (by repeat (first | exact List.mem_cons_self | apply List.mem_cons_of_mem))).2.1
    · cases hj
      exact (j3 (b13, .inl (E.1.2 1, 80, .inr (.inl (fun _ : Nat => (0 : Int64))))) (by repeat (first | exact List.mem_cons_self | apply List.mem_cons_of_mem))).2.1
    · cases hj
      exact (j3 (b14, .inl (E.1.2 1, 80, .inr (.inl (fun _ : Nat => (0 : Int64))))) (by repeat (first | exact List.mem_cons_self | apply List.mem_cons_of_mem))).2.1
    · cases hj
      exact (j3 (b15, .inl (E.1.2 1, 80, .inr (.inl (fun _ : Nat => (0 : Int64))))) (by repeat (first | exact List.mem_cons_self | apply List.mem_cons_of_mem))).2.1
    · cases hj
      exact (j3 (b16, .inl (E.1.2 1, 80, .inr (.inl (fun _ : Nat => (0 : Int64))))) (by repeat (first | exact List.mem_cons_self | apply List.mem_cons_of_mem))).2.1
    · cases hj
      exact (j3 (b17, .inl (E.1.2 2, 80, .inr (.inr (.inr (.inl (fun _ : Nat => (0 : UInt64))))))) (by repeat (first | exact List.mem_cons_self | apply List.mem_cons_of_mem))).2.1
    · cases hj
      exact (j3 (b18, .inl (E.1.2 3, 80, .inl (fun _ : Nat => (0 : Int32)))) (by repeat (first | exact List.mem_cons_self | apply List.mem_cons_of_mem))).2.1
    · cases hj
      exact (j3 (b19, .inl (E.1.2 3, 80, .inl (fun _ : Nat => (0 : Int32)))) (by repeat (first | exact List.mem_cons_self | apply List.mem_cons_of_mem))).2.1
    · cases hj
      exact (j3 (b20, .inl (E.1.2 2, 44, .inr (.inr (.inr (.inl (fun _ : Nat => (0 : UInt64))))))) (by repeat (first | exact List.mem_cons_self | apply List.mem_cons_of_mem))).2.1
    · cases hj
      exact (j3 (b21, .inl (E.1.2 3, 44, .inl (fun _ : Nat => (0 : Int32)))) (by repeat (first | exact List.mem_cons_self | apply List.mem_cons_of_mem))).2.1
    · cases hj
      exact (j3 (b25, .inl (E.1.2 0, 8, .inl (fun _ : Nat => (0 : Int32)))) (by repeat (first | exact List.mem_cons_self | apply List.mem_cons_of_mem))).2.1
    · cases hj
      exact (j3 (b26, .inl (E.1.2 0, 8, .inl (fun _ : Nat => (0 : Int32)))) (by repeat (first | exact List.mem_cons_self | apply List.mem_cons_of_mem))).2.1
    · cases hj
      exact (j3 (b27, .inl (E.1.2 3, 8, .inl (fun _ : Nat => (0 : Int32)))) (by repeat (first | exact List.mem_cons_self | apply List.mem_cons_of_mem))).2.1
    · cases hj
      exact (j3 (b28, .inl (E.1.2 0, 44, .inl (fun _ : Nat => (0 : Int32)))) (by repeat (first | exact List.mem_cons_self | apply List.mem_cons_of_mem))).2.1
    · cases hj
      exact (j3 (b31, .inl (E.1.2 0, 400, .inl (fun _ : Nat => (0 : Int32)))) (by repeat (first | exact List.mem_cons_self | apply List.mem_cons_of_mem))).2.1
    · cases hj
      exact (j3 (b32, .inl (E.1.2 0, 44, .inl (fun _ : Nat => (0 : Int32)))) (by repeat (first | exact List.mem_cons_self | apply List.mem_cons_of_mem))).2.1
    · cases hj
      exact (j3 (b33, .inl (E.1.2 0, 44, .inl (fun _ : Nat => (0 : Int32)))) (by repeat (first | exact List.mem_cons_self | apply List.mem_cons_of_mem))).2.1
    · cases hj
  · have nd : [b33, b32, b31, b28, b27, b26, b25, b21, b20, b19, b18, b17, b16, b15, b14, b13, b8, b7, b6, b5, b4, b3, b2, b1, b0].Nodup := j2
    have li := ixM_lt i (mo_ar_lt hi) hi
    have lj := ixM_lt j (mo_ar_lt hj) hj
    exact ixM_inj i (mo_ar_lt hi) j (mo_ar_lt hj) hi hj (getD_inj nd li lj e)
  · unfold mo_ar at hj
    split at hj
    · exact (j3 (b0, .inl (E.1.2 0, 81, .inl (fun _ : Nat => (0 : Int32)))) (by repeat (first | exact List.mem_cons_self | apply List.mem_cons_of_mem))).2.2
    · exact (j3 (b1, .inl (E.1.2 0, 81, .inl (fun _ : Nat => (0 : Int32)))) (by repeat (first | exact List.mem_cons_self | apply List.mem_cons_of_mem))).2.2
    · exact (j3 (b2, .inl (E.1.2 2, 81, .inr (.inr (.inr (.inl (fun _ : Nat => (0 : UInt64))))))) (by repeat (first | exact List.mem_cons_self | apply List.mem_cons_of_mem))).2.2
    · exact (j3 (b3, .inl (E.1.2 0, 3240, .inl (fun _ : Nat => (0 : Int32)))) (by repeat (first | exact List.mem_cons_self | apply List.mem_cons_of_mem))).2.2
    · exact (j3 (b4, .inl (E.1.2 0, 3240, .inl (fun _ : Nat => (0 : Int32)))) (by repeat (first | exact List.mem_cons_self | apply List.mem_cons_of_mem))).2.2
    · exact (j3 (b5, .inl (E.1.2 0, 3240, .inl (fun _ : Nat => (0 : Int32)))) (by repeat (first | exact List.mem_cons_self | apply List.mem_cons_of_mem))).2.2
    · exact (j3 (b6, .inl (E.1.2 1, 3240, .inr (.inl (fun _ : Nat => (0 : Int64))))) (by repeat (first | exact List.mem_cons_self | apply List.mem_cons_of_mem))).2.2
    · exact (j3 (b7, .inl (E.1.2 0, 24, .inl nmF)) (by repeat (first | exact List.mem_cons_self | apply List.mem_cons_of_mem))).2.2
    · exact (j3 (b8, .inl (E.1.2 0, 40, .inl (fun _ : Nat => (0 : Int32)))) (by repeat (first | exact List.mem_cons_self | apply List.mem_cons_of_mem))).2.2
    · exact (j3 (b13, .inl (E.1.2 1, 80, .inr (.inl (fun _ : Nat => (0 : Int64))))) (by repeat (first | exact List.mem_cons_self | apply List.mem_cons_of_mem))).2.2
    · exact (j3 (b14, .inl (E.1.2 1, 80, .inr (.inl (fun _ : Nat => (0 : Int64))))) (by repeat (first | exact List.mem_cons_self | apply List.mem_cons_of_mem))).2.2
    · exact (j3 (b15, .inl (E.1.2 1, 80, .inr (.inl (fun _ : Nat => (0 : Int64))))) (by repeat (first | exact List.mem_cons_self | apply List.mem_cons_of_mem))).2.2
    · exact (j3 (b16, .inl (E.1.2 1, 80, .inr (.inl (fun _ : Nat => (0 : Int64))))) (by repeat (first | exact List.mem_cons_self | apply List.mem_cons_of_mem))).2.2
    · exact (j3 (b17, .inl (E.1.2 2, 80, .inr (.inr (.inr (.inl (fun _ : Nat => (0 : UInt64))))))) (by repeat (first | exact List.mem_cons_self | apply List.mem_cons_of_mem))).2.2
    · exact (j3 (b18, .inl (E.1.2 3, 80, .inl (fun _ : Nat => (0 : Int32)))) (by repeat (first | exact List.mem_cons_self | apply List.mem_cons_of_mem))).2.2
    · exact (j3 (b19, .inl (E.1.2 3, 80, .inl (fun _ : Nat => (0 : Int32)))) (by repeat (first | exact List.mem_cons_self | apply List.mem_cons_of_mem))).2.2
    · exact (j3 (b20, .inl (E.1.2 2, 44, .inr (.inr (.inr (.inl (fun _ : Nat => (0 : UInt64))))))) (by repeat (first | exact List.mem_cons_self | apply List.mem_cons_of_mem))).2.2
    · exact (j3 (b21, .inl (E.1.2 3, 44, .inl (fun _ : Nat => (0 : Int32)))) (by repeat (first | exact List.mem_cons_self | apply List.mem_cons_of_mem))).2.2
    · exact (j3 (b25, .inl (E.1.2 0, 8, .inl (fun _ : Nat => (0 : Int32)))) (by repeat (first | exact List.mem_cons_self | apply List.mem_cons_of_mem))).2.2
    · exact (j3 (b26, .inl (E.1.2 0, 8, .inl (fun _ : Nat => (0 : Int32)))) (by repeat (first | exact List.mem_cons_self | apply List.mem_cons_of_mem))).2.2
    · exact (j3 (b27, .inl (E.1.2 3, 8, .inl (fun _ : Nat => (0 : Int32)))) (by repeat (first | exact List.mem_cons_self | apply List.mem_cons_of_mem))).2.2
    · exact (j3 (b28, .inl (E.1.2 0, 44, .inl (fun _ : Nat => (0 : Int32)))) (by repeat (first | exact List.mem_cons_self | apply List.mem_cons_of_mem))).2.2
    · exact (j3 (b31, .inl (E.1.2 0, 400, .inl (fun _ : Nat => (0 : Int32)))) (by repeat (first | exact List.mem_cons_self | apply List.mem_cons_of_mem))).2.2
    · exact (j3 (b32, .inl (E.1.2 0, 44, .inl (fun _ : Nat => (0 : Int32)))) (by repeat (first | exact List.mem_cons_self | apply List.mem_cons_of_mem))).2.2
    · exact (j3 (b33, .inl (E.1.2 0, 44, .inl (fun _ : Nat => (0 : Int32)))) (by repeat (first | exact List.mem_cons_self | apply List.mem_cons_of_mem))).2.2
    · exact absurd rfl hj
set_option maxHeartbeats 4000000 in
set_option maxRecDepth 100000 in
theorem mo_init {E : fs_E} {h : fs_Hp} {a mc ms : Nat} {Post : fs_Ps} (ha : h a = some (.inr (10, [.null, .null, .null, .null, .null, .null, .null, .null, .null, .int 0, .int 0, .int 0, .int 0, .null, .null, .null, .null, .null, .null, .null, .null, .null, .int 0, .int 0, .int 0, .null, .null, .null, .null, .int 0, .int 0, .null, .null, .null, .int 0, .int 0]))) (hm : 25 ≤ mc) (hs : 20000 ≤ ms) (K : ∀ h' ad, mo_at E.1 h' a ad moZ → (∀ j, mo_ar j ≠ none → h (ad j) = none) → (∀ q, q ≠ a → h q ≠ none → h' q = h q) → Post (.inl none) h') : w_MO_init mc ms E h a Post := by
  unfold w_MO_init
  simp only [cl81, cl3240, cl24, cl40, cl80, cl44, cl8, cl400]
  refine ⟨by decide, by decide, by omega, by omega, fun b0 n0 => ?_⟩
  refine ((inP.z ha).al n0).pw (Nat.le_of_ble_eq_true rfl) fun h0 i0 => ⟨by decide, by decide, by omega, by omega, fun b1 n1 => ?_⟩
  refine (i0.al n1).pw (Nat.le_of_ble_eq_true rfl) fun h1 i1 => ⟨by decide, by decide, by omega, by omega, fun b2 n2 => ?_⟩
  refine (i1.al n2).pw (Nat.le_of_ble_eq_true rfl) fun h2 i2 => ⟨by decide, by decide, by omega, by omega, fun b3 n3 => ?_⟩
  refine (i2.al n3).pw (Nat.le_of_ble_eq_true rfl) fun h3 i3 => ⟨by decide, by decide, by omega, by omega, fun b4 n4 => ?_⟩
  refine (i3.al n4).pw (Nat.le_of_ble_eq_true rfl) fun h4 i4 => ⟨by decide, by decide, by omega, by omega, fun b5 n5 => ?_⟩
  refine (i4.al n5).pw (Nat.le_of_ble_eq_true rfl) fun h5 i5 => ⟨by decide, by decide, by omega, by omega, fun b6 n6 => ?_⟩
  refine (i5.al n6).pw (Nat.le_of_ble_eq_true rfl) fun h6 i6 => ⟨by decide, by decide, by omega, by omega, fun b7 n7 => ?_⟩
  have k7 := i6.al (e := .inl (E.1.2 0, 24, .inl (fun _ : Nat => (0 : Int32)))) n7
  refine k7.si (show vp_in (0 : Int32) 24 from nI_in (c := 0) (by decide) (by decide)) fun g0 k7_0 => ?_
  refine k7_0.si (show vp_in (1 : Int32) 24 from nI_in (c := 1) (by decide) (by decide)) fun g1 k7_1 => ?_
  refine k7_1.si (show vp_in (2 : Int32) 24 from nI_in (c := 2) (by decide) (by decide)) fun g2 k7_2 => ?_
  refine k7_2.si (show vp_in (3 : Int32) 24 from nI_in (c := 3) (by decide) (by decide)) fun g3 k7_3 => ?_
  refine k7_3.si (show vp_in (4 : Int32) 24 from nI_in (c := 4) (by decide) (by decide)) fun g4 k7_4 => ?_
  refine k7_4.si (show vp_in (5 : Int32) 24 from nI_in (c := 5) (by decide) (by decide)) fun g5 k7_5 => ?_
  refine k7_5.si (show vp_in (6 : Int32) 24 from nI_in (c := 6) (by decide) (by decide)) fun g6 k7_6 => ?_
  refine k7_6.si (show vp_in (7 : Int32) 24 from nI_in (c := 7) (by decide) (by decide)) fun g7 k7_7 => ?_
  refine k7_7.si (show vp_in (8 : Int32) 24 from nI_in (c := 8) (by decide) (by decide)) fun g8 k7_8 => ?_
  refine k7_8.si (show vp_in (9 : Int32) 24 from nI_in (c := 9) (by decide) (by decide)) fun g9 k7_9 => ?_
  refine k7_9.si (show vp_in (10 : Int32) 24 from nI_in (c := 10) (by decide) (by decide)) fun g10 k7_10 => ?_
  refine k7_10.si (show vp_in (11 : Int32) 24 from nI_in (c := 11) (by decide) (by decide)) fun g11 k7_11 => ?_
  refine k7_11.si (show vp_in (12 : Int32) 24 from nI_in (c := 12) (by decide) (by decide)) fun g12 k7_12 => ?_
  refine k7_12.si (show vp_in (13 : Int32) 24 from nI_in (c := 13) (by decide) (by decide)) fun g13 k7_13 => ?_
  refine k7_13.si (show vp_in (14 : Int32) 24 from nI_in (c := 14) (by decide) (by decide)) fun g14 k7_14 => ?_
  refine k7_14.si (show vp_in (15 : Int32) 24 from nI_in (c := 15) (by decide) (by decide)) fun g15 k7_15 => ?_
  refine k7_15.si (show vp_in (16 : Int32) 24 from nI_in (c := 16) (by decide) (by decide)) fun g16 k7_16 => ?_
  refine k7_16.si (show vp_in (17 : Int32) 24 from nI_in (c := 17) (by decide) (by decide)) fun g17 k7_17 => ?_
  refine k7_17.si (show vp_in (18 : Int32) 24 from nI_in (c := 18) (by decide) (by decide)) fun g18 k7_18 => ?_
  refine k7_18.si (show vp_in (19 : Int32) 24 from nI_in (c := 19) (by decide) (by decide)) fun g19 k7_19 => ?_
  refine k7_19.si (show vp_in (20 : Int32) 24 from nI_in (c := 20) (by decide) (by decide)) fun g20 k7_20 => ?_
  refine k7_20.si (show vp_in (21 : Int32) 24 from nI_in (c := 21) (by decide) (by decide)) fun g21 k7_21 => ?_
  refine k7_21.si (show vp_in (22 : Int32) 24 from nI_in (c := 22) (by decide) (by decide)) fun g22 k7_22 => ?_
  refine k7_22.si (show vp_in (23 : Int32) 24 from nI_in (c := 23) (by decide) (by decide)) fun g23 k7_23 => ?_
  refine k7_23.pw (Nat.le_of_ble_eq_true rfl) fun h7 i7 => ⟨by decide, by decide, by omega, by omega, fun b8 n8 => ?_⟩
  refine (i7.al n8).pw (Nat.le_of_ble_eq_true rfl) fun h8 i8 => ?_
  refine i8.pw (Nat.le_of_ble_eq_true rfl) fun h9 i9 => ?_
  refine i9.pw (Nat.le_of_ble_eq_true rfl) fun h10 i10 => ⟨by decide, by decide, by omega, by omega, fun b13 n13 => ?_⟩
  refine (i10.al n13).pw (Nat.le_of_ble_eq_true rfl) fun h13 i13 => ⟨by decide, by decide, by omega, by omega, fun b14 n14 => ?_⟩
  refine (i13.al n14).pw (Nat.le_of_ble_eq_true rfl) fun h14 i14 => ⟨by decide, by decide, by omega, by omega, fun b15 n15 => ?_⟩
  refine (i14.al n15).pw (Nat.le_of_ble_eq_true rfl) fun h15 i15 => ⟨by decide, by decide, by omega, by omega, fun b16 n16 => ?_⟩
  refine (i15.al n16).pw (Nat.le_of_ble_eq_true rfl) fun h16 i16 => ⟨by decide, by decide, by omega, by omega, fun b17 n17 => ?_⟩
  refine (i16.al n17).pw (Nat.le_of_ble_eq_true rfl) fun h17 i17 => ⟨by decide, by decide, by omega, by omega, fun b18 n18 => ?_⟩
  refine (i17.al n18).pw (Nat.le_of_ble_eq_true rfl) fun h18 i18 => ⟨by decide, by decide, by omega, by omega, fun b19 n19 => ?_⟩
  refine (i18.al n19).pw (Nat.le_of_ble_eq_true rfl) fun h19 i19 => ⟨by decide, by decide, by omega, by omega, fun b20 n20 => ?_⟩
  refine (i19.al n20).pw (Nat.le_of_ble_eq_true rfl) fun h20 i20 => ⟨by decide, by decide, by omega, by omega, fun b21 n21 => ?_⟩
  refine (i20.al n21).pw (Nat.le_of_ble_eq_true rfl) fun h21 i21 => ⟨by decide, by decide, by omega, by omega, fun b25 n25 => ?_⟩
  refine (i21.al n25).pw (Nat.le_of_ble_eq_true rfl) fun h25 i25 => ⟨by decide, by decide, by omega, by omega, fun b26 n26 => ?_⟩
  refine (i25.al n26).pw (Nat.le_of_ble_eq_true rfl) fun h26 i26 => ⟨by decide, by decide, by omega, by omega, fun b27 n27 => ?_⟩
  refine (i26.al n27).pw (Nat.le_of_ble_eq_true rfl) fun h27 i27 => ⟨by decide, by decide, by omega, by omega, fun b28 n28 => ?_⟩
  refine (i27.al n28).pw (Nat.le_of_ble_eq_true rfl) fun h28 i28 => ⟨by decide, by decide, by omega, by omega, fun b31 n31 => ?_⟩
  refine (i28.al n31).pw (Nat.le_of_ble_eq_true rfl) fun h31 i31 => ⟨by decide, by decide, by omega, by omega, fun b32 n32 => ?_⟩
  refine (i31.al n32).pw (Nat.le_of_ble_eq_true rfl) fun h32 i32 => ⟨by decide, by decide, by omega, by omega, fun b33 n33 => ?_⟩
  refine (i32.al n33).pw (Nat.le_of_ble_eq_true rfl) fun h33 i33 => ?_
  have i' : inP 10 h h33 a [.ref b0, .ref b1, .ref b2, .ref b3, .ref b4, .ref b5, .ref b6, .ref b7, .ref b8, .int 0, .int (-1), .int 0, .int 1, .ref b13, .ref b14, .ref b15, .ref b16, .ref b17, .ref b18, .ref b19, .ref b20, .ref b21, .int 0, .int 0, .int 0, .ref b25, .ref b26, .ref b27, .ref b28, .int 0, .int 0, .ref b31, .ref b32, .ref b33, .int 0, .int 0] [(b33, .inl (E.1.2 0, 44, .inl (fun _ : Nat => (0 : Int32)))), (b32, .inl (E.1.2 0, 44, .inl (fun _ : Nat => (0 : Int32)))), (b31, .inl (E.1.2 0, 400, .inl (fun _ : Nat => (0 : Int32)))), (b28, .inl (E.1.2 0, 44, .inl (fun _ : Nat => (0 : Int32)))), (b27, .inl (E.1.2 3, 8, .inl (fun _ : Nat => (0 : Int32)))), (b26, .inl (E.1.2 0, 8, .inl (fun _ : Nat => (0 : Int32)))), (b25, .inl (E.1.2 0, 8, .inl (fun _ : Nat => (0 : Int32)))), (b21, .inl (E.1.2 3, 44, .inl (fun _ : Nat => (0 : Int32)))), (b20, .inl (E.1.2 2, 44, .inr (.inr (.inr (.inl (fun _ : Nat => (0 : UInt64))))))), (b19, .inl (E.1.2 3, 80, .inl (fun _ : Nat => (0 : Int32)))), (b18, .inl (E.1.2 3, 80, .inl (fun _ : Nat => (0 : Int32)))), (b17, .inl (E.1.2 2, 80, .inr (.inr (.inr (.inl (fun _ : Nat => (0 : UInt64))))))), (b16, .inl (E.1.2 1, 80, .inr (.inl (fun _ : Nat => (0 : Int64))))), (b15, .inl (E.1.2 1, 80, .inr (.inl (fun _ : Nat => (0 : Int64))))), (b14, .inl (E.1.2 1, 80, .inr (.inl (fun _ : Nat => (0 : Int64))))), (b13, .inl (E.1.2 1, 80, .inr (.inl (fun _ : Nat => (0 : Int64))))), (b8, .inl (E.1.2 0, 40, .inl (fun _ : Nat => (0 : Int32)))), (b7, .inl (E.1.2 0, 24, .inl nmF)), (b6, .inl (E.1.2 1, 3240, .inr (.inl (fun _ : Nat => (0 : Int64))))), (b5, .inl (E.1.2 0, 3240, .inl (fun _ : Nat => (0 : Int32)))), (b4, .inl (E.1.2 0, 3240, .inl (fun _ : Nat => (0 : Int32)))), (b3, .inl (E.1.2 0, 3240, .inl (fun _ : Nat => (0 : Int32)))), (b2, .inl (E.1.2 2, 81, .inr (.inr (.inr (.inl (fun _ : Nat => (0 : UInt64))))))), (b1, .inl (E.1.2 0, 81, .inl (fun _ : Nat => (0 : Int32)))), (b0, .inl (E.1.2 0, 81, .inl (fun _ : Nat => (0 : Int32))))] := i33
  obtain ⟨ad, m1, m2⟩ := mo_made i'
  exact K _ ad m1 m2 i'.2.2.2.1
