/-! Pure: the class's counts, and its rows whole. -/
def cfr (p : Nat → Bool) : Nat → Nat → Nat
  | 0, _ => 0
  | m + 1, a => (if p a then 1 else 0) + cfr p m (a + 1)
theorem cfr_le (p : Nat → Bool) : ∀ m a, cfr p m a ≤ m := by
  intro m
  induction m with
  | zero => intro a; exact Nat.le_refl _
  | succ m ih =>
    intro a
    have := ih (a + 1)
    rw [cfr]
    split <;> omega
theorem cfr_count (p : Nat → Bool) : ∀ m a, cfr p m a = (List.range m).countP fun i => p (a + i) := by
  intro m
  induction m with
  | zero => intro a; rfl
  | succ m ih =>
    intro a
    rw [cfr, ih (a + 1), List.range_succ_eq_map, List.countP_cons, List.countP_map]
    have e : ((fun i => p (a + i)) ∘ Nat.succ) = fun i => p (a + 1 + i) := by
      funext i
      show p (a + (i + 1)) = p (a + 1 + i)
      rw [Nat.add_right_comm, ← Nat.add_assoc]
    rw [e]
    exact Nat.add_comm _ _
theorem cfr_80 (p : Nat → Bool) : cfr p 80 0 = cnt p := by
  rw [cfr_count]
  unfold cnt
  congr 1
  funext i
  rw [Nat.zero_add]
theorem cel.b {A : Shh} {bf : Nat → Int32} {vf : Nat → UInt64} (c : cel A bf vf) {k : Nat} (hk : k < 80) : bf k = if (A k).isSome = true then 1 else 0 := by
  match e : A k with
  | none => rw [((c k hk).1 e).1]; rfl
  | some (.inl d) => rw [((c k hk).2.1 d e).1]; rfl
  | some (.inr L) => rw [(c k hk).2.2 L e]; rfl
theorem ff_L5 {E : fs_E} {h : fs_Hp} {A : Shh} {ce fil fo va re ga od b : Nat} {st : Int32} {bf : Nat → Int32} {vf : Nat → UInt64} {K : Int32 → fs_Hp → Prop} {Post : fs_Ps} (hc : ceF E h ce fil fo va re ga od st bf vf) (hcel : cel A bf vf) (hb : b ≤ 80) : ∀ (m z acc : Nat), z + m = b → K (nI (acc + cfr (fun k => (A k).isSome) m z)) h → w_CE_filledFrom_L5 E K Post (m + 1) ce (nI b) (nI acc) (nI z) h := by
  intro m
  induction m with
  | zero =>
    intro z acc hz hK
    rw [w_CE_filledFrom_L5]
    try dsimp only
    rw [if_pos (nI_le (by omega) (by omega))]
    exact hK
  | succ m ih =>
    intro z acc hz hK
    rw [w_CE_filledFrom_L5]
    try dsimp only
    rw [if_neg (nI_ge (by omega) (by omega)), nI_1, nI_1]
    refine fs_gr_of hc.1 rfl (fs_ai_of hc.2.1 (nI_in (by omega) (by omega)) ?_)
    rw [nI_clamp (by omega), hcel.b (by omega)]
    rw [cfr] at hK
    by_cases hA : (A z).isSome = true
    · rw [if_pos hA, if_neg (show ¬ (1 : Int32) = 0 by decide)]
      rw [if_pos hA, ← Nat.add_assoc] at hK
      exact ih (z + 1) (acc + 1) (by omega) hK
    · rw [if_neg hA, if_pos rfl]
      rw [if_neg hA, Nat.zero_add] at hK
      exact ih (z + 1) acc (by omega) hK
theorem cls_filledFrom {E : fs_E} {h : fs_Hp} {A : Shh} {ce fil fo va re ga od a b : Nat} {st : Int32} {bf : Nat → Int32} {vf : Nat → UInt64} {Post : fs_Ps} (hc : ceF E h ce fil fo va re ga od st bf vf) (hcel : cel A bf vf) (hb : b ≤ 80) (hab : a ≤ b) (K : Post (.inl (some (.int (nI (cfr (fun k => (A k).isSome) (b - a) a))))) h) : w_CE_filledFrom E h ce (nI a) (nI b) Post := by
  refine ⟨b - a + 1, ?_⟩
  exact ff_L5 (A := A) hc hcel hb (b - a) a 0 (by omega) (by rw [Nat.zero_add]; exact K)
theorem fa_L4 {E : fs_E} {h : fs_Hp} {A : Shh} {ce fil fo va re ga od : Nat} {st : Int32} {bf : Nat → Int32} {vf : Nat → UInt64} {ff rf : Nat → Option Nat} {oo : Nat → Int32} {Fs : Nat → List Nat} {K : Int32 → fs_Hp → Prop} {Post : fs_Ps} (hc : csr E h ce fil fo va re ga od st bf vf ff rf oo) (ht : trs E h A ff Fs) : ∀ (m z acc : Nat), z + m = 80 → K (nI (acc + cfr (fun k => (fmo (A k)).isSome) m z)) h → w_CE_formulasInAll_L4 E K Post (m + 1) ce (nI acc) (nI z) h := by
  intro m
  induction m with
  | zero =>
    intro z acc hz hK
    rw [w_CE_formulasInAll_L4]
    try dsimp only
    rw [if_pos (show (80 : Int32) ≤ nI z from nI_le (a := 80) (by omega) (by omega))]
    exact hK
  | succ m ih =>
    intro z acc hz hK
    have hz8 : z < 80 := by omega
    rw [w_CE_formulasInAll_L4]
    try dsimp only
    rw [if_neg (show ¬ (80 : Int32) ≤ nI z from nI_ge (b := 80) hz8 (by decide)), nI_1, nI_1]
    refine fs_gr_of hc.1.1 rfl (fs_aq_of hc.2.2.1 (nI_in hz8 (by omega)) ?_)
    rw [nI_clamp (by omega)]
    rw [cfr] at hK
    by_cases hf : ∃ L, A z = some (.inr L)
    · obtain ⟨L, hL⟩ := hf
      obtain ⟨r0, r1, r2⟩ := (ht z hz8).1 L hL
      rw [r1]
      try dsimp only
      rw [if_pos (show (fmo (A z)).isSome = true by rw [hL]; rfl), ← Nat.add_assoc] at hK
      exact ih (z + 1) (acc + 1) (by omega) hK
    · have hno : ∀ L, A z ≠ some (.inr L) := fun L hL => hf ⟨L, hL⟩
      rw [(ht z hz8).2 hno]
      try dsimp only
      have hm : ¬ (fmo (A z)).isSome = true := by
        match e : A z with
        | none => exact fun z => (by cases z)
        | some (.inl d) => exact fun z => (by cases z)
        | some (.inr L) => exact absurd e (hno L)
      rw [if_neg hm, Nat.zero_add] at hK
      exact ih (z + 1) acc (by omega) hK
theorem cls_formulas {E : fs_E} {h : fs_Hp} {A : Shh} {ce fil fo va re ga od : Nat} {st : Int32} {bf : Nat → Int32} {vf : Nat → UInt64} {ff rf : Nat → Option Nat} {oo : Nat → Int32} {Fs : Nat → List Nat} {Post : fs_Ps} (hc : csr E h ce fil fo va re ga od st bf vf ff rf oo) (ht : trs E h A ff Fs) (K : Post (.inl (some (.int (nI (cnt (fun k => (fmo (A k)).isSome)))))) h) : w_CE_formulasInAll E h ce Post := by
  refine ⟨80 + 1, ?_⟩
  exact fa_L4 (A := A) (Fs := Fs) hc ht 80 0 0 (by omega) (by rw [Nat.zero_add, cfr_80]; exact K)
def smr (f : Nat → Nat) : Nat → Nat → Nat
  | 0, _ => 0
  | m + 1, a => f a + smr f m (a + 1)
theorem la_L4 {E : fs_E} {h : fs_Hp} {A : Shh} {ce fil fo va re ga od : Nat} {st : Int32} {bf : Nat → Int32} {vf : Nat → UInt64} {ff rf : Nat → Option Nat} {oo : Nat → Int32} {Fs : Nat → List Nat} {K : Int32 → fs_Hp → Prop} {Post : fs_Ps} (hc : csr E h ce fil fo va re ga od st bf vf ff rf oo) (ht : trs E h A ff Fs) : ∀ (m z acc : Nat), z + m = 80 → K (nI (acc + smr (fun k => lsC (A k)) m z)) h → w_CE_lostInAll_L4 E K Post (m + 1) ce (nI acc) (nI z) h := by
  intro m
  induction m with
  | zero =>
    intro z acc hz hK
    rw [w_CE_lostInAll_L4]
    try dsimp only
    rw [if_pos (show (80 : Int32) ≤ nI z from nI_le (a := 80) (by omega) (by omega))]
    exact hK
  | succ m ih =>
    intro z acc hz hK
    have hz8 : z < 80 := by omega
    have zin : vp_in (nI z) 80 := nI_in hz8 (by omega)
    rw [w_CE_lostInAll_L4]
    try dsimp only
    rw [if_neg (show ¬ (80 : Int32) ≤ nI z from nI_ge (b := 80) hz8 (by decide)), nI_1]
    refine fs_gr_of hc.1.1 rfl (fs_aq_of hc.2.2.1 zin ?_)
    rw [nI_clamp (by omega)]
    rw [smr] at hK
    by_cases hf : ∃ L, A z = some (.inr L)
    · obtain ⟨L, hL⟩ := hf
      obtain ⟨r0, r1, r2⟩ := (ht z hz8).1 L hL
      rw [r1]
      try dsimp only
      refine fs_gr_of hc.1.1 rfl (fs_aq_of hc.2.2.1 zin ?_)
      rw [nI_clamp (by omega), r1]
      try dsimp only
      refine (show ∀ {Post : fs_Ps}, Post (.inl (some (.int (nI (lsL L))))) h → w_N_lostReferences 42 E h r0 Post from fun K' => cls_lost 41 r2 K') (fs_ki_of ?_)
      rw [nI_add]
      refine ih (z + 1) (acc + lsL L) (by omega) ?_
      rw [show lsC (A z) = lsL L by rw [hL]; rfl, ← Nat.add_assoc] at hK
      exact hK
    · have hno : ∀ L, A z ≠ some (.inr L) := fun L hL => hf ⟨L, hL⟩
      rw [(ht z hz8).2 hno]
      try dsimp only
      have hm : lsC (A z) = 0 := by
        match e : A z with
        | none => rfl
        | some (.inl d) => rfl
        | some (.inr L) => exact absurd e (hno L)
      rw [hm, Nat.zero_add] at hK
      exact ih (z + 1) acc (by omega) hK
theorem cls_lostAll {E : fs_E} {h : fs_Hp} {A : Shh} {ce fil fo va re ga od : Nat} {st : Int32} {bf : Nat → Int32} {vf : Nat → UInt64} {ff rf : Nat → Option Nat} {oo : Nat → Int32} {Fs : Nat → List Nat} {Post : fs_Ps} (hc : csr E h ce fil fo va re ga od st bf vf ff rf oo) (ht : trs E h A ff Fs) (K : Post (.inl (some (.int (nI (smr (fun k => lsC (A k)) 80 0))))) h) : w_CE_lostInAll E h ce Post := by
  refine ⟨80 + 1, ?_⟩
  exact la_L4 (A := A) (Fs := Fs) hc ht 80 0 0 (by omega) (by rw [Nat.zero_add]; exact K)
theorem ca_L8 {E : fs_E} {h : fs_Hp} {A : Shh} {ce fil fo va re ga od : Nat} {st : Int32} {bf : Nat → Int32} {vf : Nat → UInt64} {ff rf : Nat → Option Nat} {oo : Nat → Int32} {K : Int32 → fs_Hp → Prop} {Post : fs_Ps} (hc : csr E h ce fil fo va re ga od st bf vf ff rf oo) (hr : rset h rf (rea A)) : ∀ (m z acc : Nat), z + m = 80 → K (nI (acc + cfr (fun k => rea A k k) m z)) h → w_CE_circularInAll_L8 E K Post (m + 1) ce (nI acc) (nI z) h := by
  intro m
  induction m with
  | zero =>
    intro z acc hz hK
    rw [w_CE_circularInAll_L8]
    try dsimp only
    rw [if_pos (show (80 : Int32) ≤ nI z from nI_le (a := 80) (by omega) (by omega))]
    exact hK
  | succ m ih =>
    intro z acc hz hK
    have hz8 : z < 80 := by omega
    rw [w_CE_circularInAll_L8]
    try dsimp only
    rw [if_neg (show ¬ (80 : Int32) ≤ nI z from nI_ge (b := 80) hz8 (by decide)), nI_1, nI_1]
    refine ⟨hc.isc, ce_circ hz8 hc hr (fs_ki_of ?_)⟩
    rw [cfr] at hK
    cases e : rea A z z with
    | true =>
      rw [bi_1 rfl, if_neg (show ¬ (1 : Int32) = 0 by decide)]
      rw [if_pos e, ← Nat.add_assoc] at hK
      exact ih (z + 1) (acc + 1) (by omega) hK
    | false =>
      rw [bi_0 rfl, if_pos rfl]
      rw [if_neg (by rw [e]; decide), Nat.zero_add] at hK
      exact ih (z + 1) acc (by omega) hK
/-- the cell's VALUE is BAD -/
def isB (A : Shh) (k : Nat) : Bool := (A k).isSome && (val A k).isNone
theorem ba_L8 {E : fs_E} {h : fs_Hp} {A : Shh} {ce fil fo va re ga od : Nat} {st : Int32} {bf : Nat → Int32} {vf : Nat → UInt64} {K : Int32 → fs_Hp → Prop} {Post : fs_Ps} (hc : ceF E h ce fil fo va re ga od st bf vf) (hcel : cel A bf vf) (hv : vfit A vf []) : ∀ (m z acc : Nat), z + m = 80 → K (nI (acc + cfr (isB A) m z)) h → w_CE_badInAll_L8 E K Post (m + 1) ce (nI acc) (nI z) h := by
  intro m
  induction m with
  | zero =>
    intro z acc hz hK
    rw [w_CE_badInAll_L8]
    try dsimp only
    rw [if_pos (show (80 : Int32) ≤ nI z from nI_le (a := 80) (by omega) (by omega))]
    exact hK
  | succ m ih =>
    intro z acc hz hK
    have hz8 : z < 80 := by omega
    rw [w_CE_badInAll_L8]
    try dsimp only
    rw [if_neg (show ¬ (80 : Int32) ≤ nI z from nI_ge (b := 80) hz8 (by decide)), nI_1, nI_1]
    refine fs_gr_of hc.1 rfl (fs_ad_of hc.2.2.1 (nI_in hz8 (by omega)) ?_)
    rw [nI_clamp (by omega)]
    rw [cfr] at hK
    have hnn := hc.2.2.2.2 z hz8
    have good : ¬ isB A z = true → nb (vf z) → w_SH_isBad E h (vf z) (fs_ki (fun x106 h105 => (if x106 = 0 then (w_CE_badInAll_L8 E K Post (m + 1)) ce (nI acc) (nI (z + 1)) h105 else (w_CE_badInAll_L8 E K Post (m + 1)) ce (nI (acc + 1)) (nI (z + 1)) h105)) (fun C_ h_ => Post (.inr C_) h_)) := by
      intro hb hn
      refine isBad_ok hn (fs_ki_of ?_)
      rw [if_pos rfl]
      rw [if_neg hb, Nat.zero_add] at hK
      exact ih (z + 1) acc (by omega) hK
    match e : A z with
    | none =>
      refine good (by unfold isB; rw [e]; exact Bool.false_ne_true) ?_
      rw [((hcel z hz8).1 e).2]
      exact nb_0
    | some y =>
      have hne : A z ≠ none := by rw [e]; exact fun z => by cases z
      have hck := hv z hz8 hne (by simp)
      by_cases hn : nb (vf z)
      · refine good ?_ hn
        rw [ck_ok hn] at hck
        unfold isB
        rw [e, ← hck]
        exact Bool.false_ne_true
      · refine isBad_bad hnn hn (fs_ki_of ?_)
        rw [if_neg (show ¬ (1 : Int32) = 0 by decide)]
        rw [ck_bad hnn hn] at hck
        have hb : isB A z = true := by
          unfold isB
          rw [e, ← hck]
          rfl
        rw [if_pos hb, ← Nat.add_assoc] at hK
        exact ih (z + 1) (acc + 1) (by omega) hK
theorem er_L2z {E : fs_E} {A : Shh} {ce fil fo va re ga od r : Nat} {rf : Nat → Option Nat} {oo : Nat → Int32} {Fs : Nat → List Nat} {K : fs_Hp → Prop} {Post : fs_Ps} (hr : r < 10) : ∀ (m c : Nat) (h : fs_Hp) (st : Int32) (bf : Nat → Int32) (vf : Nat → UInt64) (ff : Nat → Option Nat), c + m = 8 → (m = 0 → st = 0) → clL E h (emR none (r * 8) (r * 8 + c) A) ce fil fo va re ga od st bf vf ff rf oo (emR [] (r * 8) (r * 8 + c) Fs) → (∀ h' bf' vf' ff', clL E h' (emR none (r * 8) (r * 8 + 8) A) ce fil fo va re ga od 0 bf' vf' ff' rf oo (emR [] (r * 8) (r * 8 + 8) Fs) → fcF ce fil va fo h h' → K h') → w_CE_emptyRow_L2 E K Post (m + 1) ce (nI r) (nI c) h := by
  intro m
  induction m with
  | zero =>
    intro c h st bf vf ff hc hst hcl hK
    rw [w_CE_emptyRow_L2]
    try dsimp only
    rw [if_pos (show (8 : Int32) ≤ nI c from nI_le (a := 8) (by omega) (by omega))]
    rw [show c = 8 by omega, hst rfl] at hcl
    exact hK h bf vf ff hcl fcF.rf
  | succ m ih =>
    intro c h st bf vf ff hc _ hcl hK
    obtain ⟨c1, c2, c3⟩ := cell80 (show c < 8 by omega) hr
    rw [w_CE_emptyRow_L2]
    try dsimp only
    rw [if_neg (show ¬ (8 : Int32) ≤ nI c from nI_ge (b := 8) (by omega) (by decide)), c1, nI_1]
    refine ⟨hcl.isc, cls_empty (by omega) hcl fun h' bf' vf' ff' a b => fs_kv_of ?_⟩
    refine ih (c + 1) h' 0 bf' vf' ff' (by omega) (fun _ => rfl) (a.cong (fun q hq => ?_) (fun q hq => ?_)) fun h2 bf2 vf2 ff2 a2 b2 => hK h2 bf2 vf2 ff2 a2 (b.trans b2)
    · try dsimp only
      unfold emR
      by_cases hqz : q = r * 8 + c
      · rw [if_pos (by omega), if_pos hqz]
      · rw [if_neg hqz]
        by_cases hlt : r * 8 ≤ q ∧ q < r * 8 + c
        · rw [if_pos hlt, if_pos (by omega)]
        · rw [if_neg hlt, if_neg (by omega)]
    · try dsimp only
      unfold emR
      by_cases hqz : q = r * 8 + c
      · rw [if_pos (by omega), if_pos hqz]
      · rw [if_neg hqz]
        by_cases hlt : r * 8 ≤ q ∧ q < r * 8 + c
        · rw [if_pos hlt, if_pos (by omega)]
        · rw [if_neg hlt, if_neg (by omega)]
def shD {α : Type} (a z : Nat) (f : Nat → α) (q : Nat) : α := if a ≤ q ∧ q < z then f (q + 8) else f q
theorem ro_L20 {E : fs_E} {A : Shh} {ce fil fo va re ga od r : Nat} {rf : Nat → Option Nat} {oo : Nat → Int32} {Fs : Nat → List Nat} {z2 : Int32} {K : fs_Hp → Prop} {Post : fs_Ps} : ∀ (m z : Nat) (h : fs_Hp) (st : Int32) (bf : Nat → Int32) (vf : Nat → UInt64) (ff : Nat → Option Nat), z + m = 72 → r * 8 ≤ z → clL E h (shD (r * 8) z A) ce fil fo va re ga od st bf vf ff rf oo (shD (r * 8) z Fs) → (∀ h' st' bf' vf' ff', clL E h' (shD (r * 8) 72 A) ce fil fo va re ga od st' bf' vf' ff' rf oo (shD (r * 8) 72 Fs) → fcF ce fil va fo h h' → K h') → w_CE_rowOut_L20 E K Post (m + 1) ce (nI r) z2 (nI z) h := by
  intro m
  induction m with
  | zero =>
    intro z h st bf vf ff hz h80 hc hK
    rw [w_CE_rowOut_L20]
    try dsimp only
    rw [if_pos (show (72 : Int32) ≤ nI z from nI_le (a := 72) (by omega) (by omega))]
    rw [show z = 72 by omega] at hc
    exact hK h st bf vf ff hc fcF.rf
  | succ m ih =>
    intro z h st bf vf ff hz h80 hc hK
    rw [w_CE_rowOut_L20]
    try dsimp only
    rw [if_neg (show ¬ (72 : Int32) ≤ nI z from nI_ge (b := 72) (by omega) (by decide)), show (nI z + 8 : Int32) = nI (z + 8) from nI_add z 8, nI_1]
    refine ⟨hc.isc, cls_take (show z < 80 by omega) (show z + 8 < 80 by omega) hc fun h' bf' vf' ff' a b => fs_kv_of ?_⟩
    refine ih (z + 1) h' 0 bf' vf' ff' (by omega) (by omega) (a.cong (fun q hq => ?_) (fun q hq => ?_)) fun h2 st2 bf2 vf2 ff2 a2 b2 => hK h2 st2 bf2 vf2 ff2 a2 (b.trans b2)
    · try dsimp only
      unfold shD
      by_cases hqz : q = z
      · rw [if_pos (show r * 8 ≤ q ∧ q < z + 1 by omega), if_pos hqz, if_neg (by omega), hqz]
      · rw [if_neg hqz]
        by_cases hlt : r * 8 ≤ q ∧ q < z
        · rw [if_pos hlt, if_pos (by omega)]
        · rw [if_neg hlt, if_neg (by omega)]
    · try dsimp only
      unfold shD
      by_cases hqz : q = z
      · rw [if_pos (show r * 8 ≤ q ∧ q < z + 1 by omega), if_pos hqz, if_neg (by omega), hqz]
      · rw [if_neg hqz]
        by_cases hlt : r * 8 ≤ q ∧ q < z
        · rw [if_pos hlt, if_pos (by omega)]
        · rw [if_neg hlt, if_neg (by omega)]
/-- the formulas of a sheet are some of another's -/
def fsb (A : Shh) (Fs : Nat → List Nat) (A' : Shh) (Fs' : Nat → List Nat) : Prop := ∀ k, k < 80 → (∃ L, A' k = some (.inr L)) → ∃ j, j < 80 ∧ (∃ L, A j = some (.inr L)) ∧ Fs' k = Fs j
theorem dsj.re {h h' : fs_Hp} {A A' : Shh} {Fs Fs' : Nat → List Nat} (d : dsj h A Fs) (s : Nat → Nat) (hs : ∀ k, k < 80 → (∃ L, A' k = some (.inr L)) → s k < 80 ∧ A' k = A (s k) ∧ Fs' k = Fs (s k)) (hi : ∀ k j, k < 80 → j < 80 → (∃ L, A' k = some (.inr L)) → (∃ L, A' j = some (.inr L)) → k ≠ j → s k ≠ s j) (h5 : ∀ q fs, h' q = some (.inr (5, fs)) → ∃ fs', h q = some (.inr (5, fs'))) : dsj h' A' Fs' := by
  refine ⟨fun k hk L hL => ?_, fun k j hk hj hkj fk fj q q1 q2 fs e => ?_⟩
  · obtain ⟨s1, s2, s3⟩ := hs k hk ⟨L, hL⟩
    rw [s3]
    exact d.1 (s k) s1 L (s2.symm.trans hL)
  · obtain ⟨s1, s2, s3⟩ := hs k hk fk
    obtain ⟨t1, t2, t3⟩ := hs j hj fj
    rw [s3] at q1
    rw [t3] at q2
    rw [s2] at fk
    obtain ⟨fs', e'⟩ := h5 q fs e
    have fj' := fj
    rw [t2] at fj'
    exact d.2 (s k) (s j) s1 t1 (hi k j hk hj (by rw [s2]; exact fk) fj hkj) fk fj' q q1 q2 fs' e'
theorem clL.is5 {E : fs_E} {h h' : fs_Hp} {A : Shh} {ce fil fo va re ga od : Nat} {st : Int32} {bf : Nat → Int32} {vf : Nat → UInt64} {ff rf : Nat → Option Nat} {oo : Nat → Int32} {Fs : Nat → List Nat} (c : clL E h' A ce fil fo va re ga od st bf vf ff rf oo Fs) (f : fcF ce fil va fo h h') : ∀ q fs, h' q = some (.inr (5, fs)) → ∃ fs', h q = some (.inr (5, fs')) := by
  intro q fs e
  have n1 : q ≠ ce := fun z => by rw [z, c.1.1.1] at e; cases e
  have n2 : q ≠ fil := fun z => by rw [z, c.1.1.2.1] at e; cases e
  have n3 : q ≠ va := fun z => by rw [z, c.1.1.2.2.1] at e; cases e
  have n4 : q ≠ fo := fun z => by rw [z, c.1.2.2.1] at e; cases e
  exact ⟨fs, by rw [← f q n1 n2 n3 n4]; exact e⟩
/-- what rows that come and go leave -/
def rwF (ce fil va fo : Nat) (h h' : fs_Hp) : Prop := ∀ q, q ≠ ce → q ≠ fil → q ≠ va → q ≠ fo → h' q = h q ∨ ((∃ fs, h q = some (.inr (5, fs))) ∧ ∃ fs, h' q = some (.inr (5, fs)))
theorem mpU_0 (g : It → It) (A : Shh) : mpU g 0 A = A := by
  funext q
  unfold mpU
  rw [if_neg (Nat.not_lt_zero q)]
theorem cls_rowIn {E : fs_E} {h : fs_Hp} {A : Shh} {ce fil fo va re ga od r : Nat} {st : Int32} {bf : Nat → Int32} {vf : Nat → UInt64} {ff rf : Nat → Option Nat} {oo : Nat → Int32} {Fs : Nat → List Nat} {Post : fs_Ps} (hr : r < 10) (c : clL E h A ce fil fo va re ga od st bf vf ff rf oo Fs) (d : dsj h A Fs) (K : ∀ h' bf' vf' ff' Fs', clL E h' (insS A r) ce fil fo va re ga od 0 bf' vf' ff' rf oo Fs' → dsj h' (insS A r) Fs' → rwF ce fil va fo h h' → fsb A Fs (insS A r) Fs' → Post (.inl (some (.int (nI (rowc A 9))))) h') : w_CE_rowIn E h ce (nI r) Post := by
  refine ⟨c.isc, ?_⟩
  refine (show ∀ {Post : fs_Ps}, Post (.inl (some (.int (nI (cfr (fun k => (A k).isSome) (80 - 72) 72))))) h → w_CE_filledFrom E h ce 72 80 Post from fun K' => cls_filledFrom (A := A) (a := 72) (b := 80) c.1.1 c.2.2.2.2.1 (by decide) (by decide) K') (fs_ki_of ?_)
  have e9 : cfr (fun k => (A k).isSome) (80 - 72) 72 = rowc A 9 := by
    rw [cfr_count]
    rfl
  rw [e9]
  refine ⟨80 - (r + 1) * 8 + 1, ?_⟩
  have c0 : clL E h (shU 79 A) ce fil fo va re ga od st bf vf ff rf oo (shU 79 Fs) := c.cong (fun q hq => by unfold shU; rw [if_neg (by omega)]) (fun q hq => by unfold shU; rw [if_neg (by omega)])
  refine ri_L12 (A := A) (Fs := Fs) hr (80 - (r + 1) * 8) 79 h st bf vf ff (by omega) (by omega) c0 fun h1 st1 bf1 vf1 ff1 c1 f1 => ⟨c1.isc, ?_⟩
  refine ⟨8 + 1, ?_⟩
  have c2 : clL E h1 (emR none (r * 8) (r * 8 + 0) (shU ((r + 1) * 8 - 1) A)) ce fil fo va re ga od st1 bf1 vf1 ff1 rf oo (emR [] (r * 8) (r * 8 + 0) (shU ((r + 1) * 8 - 1) Fs)) := c1.cong (fun q hq => by unfold emR; rw [if_neg (by omega)]) (fun q hq => by unfold emR; rw [if_neg (by omega)])
  refine er_L2z hr 8 0 h1 st1 bf1 vf1 ff1 (by omega) (fun z => by cases z) c2 fun h2 bf2 vf2 ff2 c3 f2 => fs_kv_of ⟨80 + 1, ?_⟩
  have hA : ∀ q, emR none (r * 8) (r * 8 + 8) (shU ((r + 1) * 8 - 1) A) q = insA A r q := by
    intro q
    unfold emR shU insA
    by_cases q1 : q / 8 < r
    · rw [if_neg (by omega), if_neg (by omega), if_pos q1]
    · rw [if_neg q1]
      by_cases q2 : q / 8 = r
      · rw [if_pos (by omega), if_pos q2]
      · rw [if_neg (by omega), if_pos (by omega), if_neg q2]
  have eA : emR none (r * 8) (r * 8 + 8) (shU ((r + 1) * 8 - 1) A) = insA A r := funext hA
  have hFs : ∃ Fs', Fs' = emR [] (r * 8) (r * 8 + 8) (shU ((r + 1) * 8 - 1) Fs) := ⟨_, rfl⟩
  obtain ⟨Fs', eFs⟩ := hFs
  rw [eA, ← eFs] at c3
  have hsub : ∀ k, k < 80 → (∃ L, insA A r k = some (.inr L)) → (if k / 8 < r then k else k - 8) < 80 ∧ insA A r k = A (if k / 8 < r then k else k - 8) ∧ Fs' k = Fs (if k / 8 < r then k else k - 8) := by
    intro k hk ⟨L, hL⟩
    have q2 : ¬ k / 8 = r := by
      intro q2
      unfold insA at hL
      rw [if_neg (by omega), if_pos q2] at hL
      cases hL
    rw [eFs]
    unfold insA emR shU
    by_cases q1 : k / 8 < r
    · rw [if_pos q1, if_pos q1, if_neg (by omega), if_neg (by omega)]
      exact ⟨hk, rfl, rfl⟩
    · rw [if_neg q1, if_neg q1, if_neg q2, if_neg (by omega), if_pos (by omega)]
      exact ⟨by omega, rfl, rfl⟩
  have d3 : dsj h2 (insA A r) Fs' := by
    refine d.re (fun k => if k / 8 < r then k else k - 8) hsub (fun k j hk hj fk fj hkj => ?_) (c3.is5 (f1.trans f2))
    have nr : ∀ k, (∃ L, insA A r k = some (.inr L)) → ¬ k / 8 = r := by
      rintro k ⟨L, hL⟩ q2
      unfold insA at hL
      rw [if_neg (by omega), if_pos q2] at hL
      cases hL
    have := nr k fk
    have := nr j fj
    try dsimp only
    split <;> split <;> omega
  rw [← mpU_0 (itI r) (insA A r)] at c3 d3
  refine ri_L44 (A := insA A r) hr 80 0 h2 (by omega) c3 d3 fun h3 c4 d4 f4 => ?_
  have e80 : ∀ q, q < 80 → mpU (itI r) 80 (insA A r) q = insS A r q := fun q hq => by
    unfold mpU insS
    rw [if_pos hq]
    rfl
  have c5 := c4.cong (A' := insS A r) (Fs' := Fs') (fun q hq => (e80 q hq).symm) (fun q hq => rfl)
  have fo5 : ∀ k, k < 80 → (∃ L, insS A r k = some (.inr L)) → ∃ L, insA A r k = some (.inr L) := fun k hk hL => by
    rw [← e80 k hk] at hL
    exact mpU_f.mp hL
  have d5 : dsj h3 (insS A r) Fs' := ⟨fun k hk L hL => d4.1 k hk L ((e80 k hk).trans hL), fun k j hk hj hkj fk fj => d4.2 k j hk hj hkj (by rw [e80 k hk]; exact fk) (by rw [e80 j hj]; exact fj)⟩
  refine K h3 bf2 vf2 ff2 Fs' c5 d5 (fun q q1 q2 q3 q4 => ?_) fun k hk hL => ?_
  · have e2 : h2 q = h q := (f1.trans f2) q q1 q2 q3 q4
    rcases f4 q with e | ⟨⟨fs, e1⟩, e3⟩
    · exact Or.inl (e.trans e2)
    · exact Or.inr ⟨⟨fs, e2.symm.trans e1⟩, e3⟩
  · obtain ⟨L, hL'⟩ := fo5 k hk hL
    obtain ⟨s1, s2, s3⟩ := hsub k hk ⟨L, hL'⟩
    exact ⟨_, s1, ⟨L, s2.symm.trans hL'⟩, s3⟩
theorem cls_rowOut {E : fs_E} {h : fs_Hp} {A : Shh} {ce fil fo va re ga od r : Nat} {st : Int32} {bf : Nat → Int32} {vf : Nat → UInt64} {ff rf : Nat → Option Nat} {oo : Nat → Int32} {Fs : Nat → List Nat} {Post : fs_Ps} (hr : r < 10) (c : clL E h A ce fil fo va re ga od st bf vf ff rf oo Fs) (d : dsj h A Fs) (K : ∀ h' bf' vf' ff' Fs', clL E h' (delS A r) ce fil fo va re ga od 0 bf' vf' ff' rf oo Fs' → dsj h' (delS A r) Fs' → rwF ce fil va fo h h' → fsb A Fs (delS A r) Fs' → Post (.inl (some (.int (nI (rowc A r))))) h') : w_CE_rowOut E h ce (nI r) Post := by
  have e8 : (nI r * 8 : Int32) = nI (r * 8) := nI_mul r 8
  have e88 : ((nI r + 1) * 8 : Int32) = nI ((r + 1) * 8) := by rw [nI_1]; exact nI_mul (r + 1) 8
  unfold w_CE_rowOut
  rw [e88, e8]
  refine ⟨c.isc, ?_⟩
  refine cls_filledFrom (A := A) c.1.1 c.2.2.2.2.1 (by omega) (by omega) (fs_ki_of ?_)
  have e9 : cfr (fun k => (A k).isSome) ((r + 1) * 8 - r * 8) (r * 8) = rowc A r := by
    rw [cfr_count, show (r + 1) * 8 - r * 8 = 8 by omega]
    rfl
  rw [e9]
  refine ⟨72 - r * 8 + 1, ?_⟩
  have c0 : clL E h (shD (r * 8) (r * 8) A) ce fil fo va re ga od st bf vf ff rf oo (shD (r * 8) (r * 8) Fs) := c.cong (fun q hq => by unfold shD; rw [if_neg (by omega)]) (fun q hq => by unfold shD; rw [if_neg (by omega)])
  refine ro_L20 (A := A) (Fs := Fs) (72 - r * 8) (r * 8) h st bf vf ff (by omega) (Nat.le_refl _) c0 fun h1 st1 bf1 vf1 ff1 c1 f1 => ⟨c1.isc, ?_⟩
  refine ⟨8 + 1, ?_⟩
  have c2 : clL E h1 (emR none (9 * 8) (9 * 8 + 0) (shD (r * 8) 72 A)) ce fil fo va re ga od st1 bf1 vf1 ff1 rf oo (emR [] (9 * 8) (9 * 8 + 0) (shD (r * 8) 72 Fs)) := c1.cong (fun q hq => by unfold emR; rw [if_neg (by omega)]) (fun q hq => by unfold emR; rw [if_neg (by omega)])
  refine er_L2z (show 9 < 10 by omega) 8 0 h1 st1 bf1 vf1 ff1 (by omega) (fun z => by cases z) c2 fun h2 bf2 vf2 ff2 c3 f2 => fs_kv_of ⟨80 + 1, ?_⟩
  have hA : ∀ q, q < 80 → emR none (9 * 8) (9 * 8 + 8) (shD (r * 8) 72 A) q = delA A r q := by
    intro q hq
    unfold emR shD delA
    by_cases q1 : q / 8 < r
    · rw [if_neg (by omega), if_neg (by omega), if_pos q1]
    · rw [if_neg q1]
      by_cases q2 : q / 8 < 9
      · rw [if_neg (by omega), if_pos (by omega), if_pos q2]
      · rw [if_pos (by omega), if_neg q2]
  have hFs : ∃ Fs', Fs' = emR [] (9 * 8) (9 * 8 + 8) (shD (r * 8) 72 Fs) := ⟨_, rfl⟩
  obtain ⟨Fs', eFs⟩ := hFs
  rw [← eFs] at c3
  replace c3 := c3.cong (A' := delA A r) (Fs' := Fs') (fun q hq => (hA q hq).symm) (fun q hq => rfl)
  have n9 : ∀ k, k < 80 → (∃ L, delA A r k = some (.inr L)) → k / 8 < r ∨ k / 8 < 9 := by
    rintro k hk ⟨L, hL⟩
    unfold delA at hL
    by_cases q1 : k / 8 < r
    · exact Or.inl q1
    · rw [if_neg q1] at hL
      by_cases q2 : k / 8 < 9
      · exact Or.inr q2
      · rw [if_neg q2] at hL
        cases hL
  have hsub : ∀ k, k < 80 → (∃ L, delA A r k = some (.inr L)) → (if k / 8 < r then k else k + 8) < 80 ∧ delA A r k = A (if k / 8 < r then k else k + 8) ∧ Fs' k = Fs (if k / 8 < r then k else k + 8) := by
    intro k hk hL
    have q2 := n9 k hk hL
    rw [eFs]
    unfold delA emR shD
    by_cases q1 : k / 8 < r
    · rw [if_pos q1, if_pos q1, if_neg (by omega), if_neg (by omega)]
      exact ⟨hk, rfl, rfl⟩
    · rw [if_neg q1, if_neg q1, if_pos (by omega), if_neg (by omega), if_pos (by omega)]
      exact ⟨by omega, rfl, rfl⟩
  have d3 : dsj h2 (delA A r) Fs' := by
    refine d.re (fun k => if k / 8 < r then k else k + 8) hsub (fun k j hk hj fk fj hkj => ?_) (c3.is5 (f1.trans f2))
    try dsimp only
    split <;> split <;> omega
  rw [← mpU_0 (itO r) (delA A r)] at c3 d3
  refine ro_L49 (A := delA A r) hr 80 0 h2 (by omega) c3 d3 fun h3 c4 d4 f4 => ?_
  have e80 : ∀ q, q < 80 → mpU (itO r) 80 (delA A r) q = delS A r q := fun q hq => by
    unfold mpU delS
    rw [if_pos hq]
    rfl
  have c5 := c4.cong (A' := delS A r) (Fs' := Fs') (fun q hq => (e80 q hq).symm) (fun q hq => rfl)
  have fo5 : ∀ k, k < 80 → (∃ L, delS A r k = some (.inr L)) → ∃ L, delA A r k = some (.inr L) := fun k hk hL => by
    rw [← e80 k hk] at hL
    exact mpU_f.mp hL
  have d5 : dsj h3 (delS A r) Fs' := ⟨fun k hk L hL => d4.1 k hk L ((e80 k hk).trans hL), fun k j hk hj hkj fk fj => d4.2 k j hk hj hkj (by rw [e80 k hk]; exact fk) (by rw [e80 j hj]; exact fj)⟩
  refine K h3 bf2 vf2 ff2 Fs' c5 d5 (fun q q1 q2 q3 q4 => ?_) fun k hk hL => ?_
  · have e2 : h2 q = h q := (f1.trans f2) q q1 q2 q3 q4
    rcases f4 q with e | ⟨⟨fs, e1⟩, e3⟩
    · exact Or.inl (e.trans e2)
    · exact Or.inr ⟨⟨fs, e2.symm.trans e1⟩, e3⟩
  · obtain ⟨L, hL'⟩ := fo5 k hk hL
    obtain ⟨s1, s2, s3⟩ := hsub k hk ⟨L, hL'⟩
    exact ⟨_, s1, ⟨L, s2.symm.trans hL'⟩, s3⟩
