/-! Pure: the class reads a numeral, a reference, a name. -/
def pa_n (f : Nat → Int32) (n : Nat) : Nat → Nat := fun p => if p < n then (f p).toNatClampNeg else 0
theorem pa_n_is {E : fs_E} {h : fs_Hp} {ln ch : Nat} {f : Nat → Int32} {n p o : Nat} (hl : pa_L E h ln ch f n p o) : (n ≤ p ∧ pa_c f n p = -1 ∧ pa_n f n p = 0) ∨ (p < n ∧ pa_n f n p < 128 ∧ pa_c f n p = nI (pa_n f n p)) := by
  rcases pa_c_is hl with ⟨h1, h2⟩ | ⟨h1, c, h2, h3⟩
  · exact Or.inl ⟨h1, h2, by rw [pa_n, if_neg (by omega)]⟩
  · refine Or.inr ⟨h1, ?_⟩
    have e : pa_n f n p = c := by
      rw [pa_n, if_pos h1]
      rw [pa_c, if_pos h1] at h3
      rw [h3, nI_clamp (by omega)]
    rw [e]
    exact ⟨h2, h3⟩
theorem nI_m1 {c : Nat} (hc : c < 2 ^ 31) : nI c ≠ -1 := fun z => nI_pos hc (by rw [z]; decide)
theorem pa_ci {E : fs_E} {h : fs_Hp} {ln ch : Nat} {f : Nat → Int32} {n p o : Nat} (hl : pa_L E h ln ch f n p o) {c : Nat} (h0 : 0 < c) (hc : c < 128) : pa_c f n p = nI c ↔ pa_n f n p = c := by
  rcases pa_n_is hl with ⟨h1, h2, h3⟩ | ⟨h1, h2, h3⟩
  · rw [h2, h3]
    exact ⟨fun z => absurd z.symm (nI_m1 (by omega)), fun z => by omega⟩
  · rw [h3, nI_eq (by omega) (by omega)]
theorem pa_di {E : fs_E} {h : fs_Hp} {ln ch : Nat} {f : Nat → Int32} {n p o : Nat} (hl : pa_L E h ln ch f n p o) : pa_dig (pa_c f n p) ↔ 48 ≤ pa_n f n p ∧ pa_n f n p ≤ 57 := by
  unfold pa_dig
  rcases pa_n_is hl with ⟨h1, h2, h3⟩ | ⟨h1, h2, h3⟩
  · rw [h2, h3]
    exact ⟨fun z => absurd (by decide) z.1, fun z => by omega⟩
  · rw [h3]
    have e1 := nI_ltI (a := pa_n f n p) (b := 48) (by omega) (by decide)
    have e2 := nI_ltI (a := 57) (b := pa_n f n p) (by decide) (by omega)
    constructor
    · intro z
      exact ⟨Nat.not_lt.mp fun q => z.1 (e1.mpr q), Nat.not_lt.mp fun q => z.2 (e2.mpr q)⟩
    · intro z
      exact ⟨fun q => absurd (e1.mp q) (by omega), fun q => absurd (e2.mp q) (by omega)⟩
theorem pa_co {E : fs_E} {h : fs_Hp} {ln ch : Nat} {f : Nat → Int32} {n p o : Nat} (hl : pa_L E h ln ch f n p o) : pa_col (pa_c f n p) ↔ 97 ≤ pa_n f n p ∧ pa_n f n p ≤ 104 := by
  unfold pa_col
  rcases pa_n_is hl with ⟨h1, h2, h3⟩ | ⟨h1, h2, h3⟩
  · rw [h2, h3]
    exact ⟨fun z => absurd (by decide) z.1, fun z => by omega⟩
  · rw [h3]
    have e1 := nI_ltI (a := pa_n f n p) (b := 97) (by omega) (by decide)
    have e2 := nI_leI (a := 105) (b := pa_n f n p) (by decide) (by omega)
    constructor
    · intro z
      exact ⟨Nat.not_lt.mp fun q => z.1 (e1.mpr q), Nat.le_of_lt_succ (Nat.not_le.mp fun q => z.2 (e2.mpr q))⟩
    · intro z
      exact ⟨fun q => absurd (e1.mp q) (by omega), fun q => absurd (e2.mp q) (by omega)⟩
theorem pa_lt {E : fs_E} {h : fs_Hp} {ln ch : Nat} {f : Nat → Int32} {n p o : Nat} (hl : pa_L E h ln ch f n p o) (h0 : 0 < pa_n f n p) : p < n ∧ pa_n f n p < 128 ∧ pa_c f n p = nI (pa_n f n p) := by
  rcases pa_n_is hl with ⟨h1, h2, h3⟩ | h
  · omega
  · exact h
/-- what follows a reading -/
def pa_K (E : fs_E) (h : fs_Hp) (ln ch : Nat) (f : Nat → Int32) (n p o : Nat) (r : ps_R (List It)) (Post : fs_Ps) : Prop :=
  (r.1 = none → ∀ (h' : fs_Hp) (o' : Nat), pa_L E h' ln ch f n r.2 o' → pa_x ln h h' → Post (.inl (some .null)) h') ∧
  (∀ L, r.1 = some L → ∀ (h' : fs_Hp) (q : Nat) (F : List Nat), pa_L E h' ln ch f n r.2 o → pa_x ln h h' → rp (r.2 - p) E h' q L F → F.Nodup → (∀ a ∈ F, h a = none) → Post (.inl (some (.ref q))) h')
theorem pa_L.ext {E : fs_E} {h h' : fs_Hp} {ln ch : Nat} {f : Nat → Int32} {n p o : Nat} (hl : pa_L E h ln ch f n p o) (he : ∀ q, h q ≠ none → h' q = h q) : pa_L E h' ln ch f n p o :=
  ⟨(he ln (by rw [hl.1]; exact fun z => by cases z)).trans hl.1, (he ch (by rw [hl.2.1]; exact fun z => by cases z)).trans hl.2.1, hl.2.2⟩
theorem mk_ext {h h' : fs_Hp} {a i : Nat} {e : va_E} (hn : h a = none) (hi : fs_up h a e i = none) (hx : ∀ q, q ≠ a → q ≠ i → h' q = fs_up h a e q) : ∀ q, h q ≠ none → h' q = h q := by
  intro q hq
  have h1 : q ≠ a := fun z => hq (z ▸ hn)
  have h2 : q ≠ i := fun z => by
    rw [← z, fs_up_ne h1] at hi
    exact hq hi
  rw [hx q h1 h2, fs_up_ne h1]
theorem up_none {h : fs_Hp} {a i : Nat} {e : va_E} (hi : fs_up h a e i = none) : i ≠ a ∧ h i = none := by
  by_cases z : i = a
  · rw [z, fs_up_self] at hi
    cases hi
  · exact ⟨z, by rw [fs_up_ne z] at hi; exact hi⟩
theorem ps_dg_lt (C : Nat → Nat) : ∀ (k p d M : Nat), d < M → (ps_dg C k p d).1 < M * 10 ^ k := by
  intro k
  induction k with
  | zero => intro p d M h; rw [ps_dg]; omega
  | succ k ih =>
    intro p d M h
    rw [ps_dg]
    split
    · next hc =>
      have := ih (p + 1) (d * 10 + (C p - 48)) (M * 10) (by omega)
      rw [Nat.pow_succ]
      rw [Nat.mul_assoc, Nat.mul_comm 10] at this
      exact this
    · show d < _
      have h1 : 1 ≤ 10 ^ (k + 1) := Nat.one_le_pow _ _ (by omega)
      have h2 : M * 1 ≤ M * 10 ^ (k + 1) := Nat.mul_le_mul (Nat.le_refl M) h1
      omega
theorem ps_dg_le (C : Nat → Nat) : ∀ (k p d : Nat), (ps_dg C k p d).2 ≤ p + k := by
  intro k
  induction k with
  | zero => intro p d; exact Nat.le_refl _
  | succ k ih =>
    intro p d
    rw [ps_dg]
    split
    · have := ih (p + 1) (d * 10 + (C p - 48))
      omega
    · show p ≤ _
      omega
theorem lN_dig {d c : Nat} (h1 : 48 ≤ c) (h2 : c < 128) : lN d * 10 + Int32.toInt64 (nI c - 48) = lN (d * 10 + (c - 48)) := by
  have e1 : nI c - 48 = nI (c - 48) := pk_sub (a := c) (b := 48) h1
  rw [e1, nI_l (by omega), ← lN_add, ← lN_mul]
  rfl
theorem cp_digits {E : fs_E} {ln ch : Nat} {f : Nat → Int32} {n o most : Nat} {K : Int64 → fs_Hp → Prop} {Post : fs_Ps} (hm : most ≤ 9) : ∀ (k i d p : Nat) (h : fs_Hp), pa_L E h ln ch f n p o → i + k = most →
    (∀ h', pa_L E h' ln ch f n (ps_dg (pa_n f n) k p d).2 o → pa_x ln h h' → K (lN (ps_dg (pa_n f n) k p d).1) h') → w_LN_digits_L6 E K Post (k + 1) ln (nI most) (lN d) (nI i) h := by
  intro k
  induction k with
  | zero =>
    intro i d p h hl hi hK
    rw [w_LN_digits_L6]
    dsimp only
    rw [if_pos (nI_le (by omega) (by omega))]
    exact hK h hl pa_x.rf
  | succ k ih =>
    intro i d p h hl hi hK
    rw [w_LN_digits_L6]
    dsimp only
    rw [if_neg (nI_ge (by omega) (by omega))]
    refine ⟨hl.isc, pa_nextIsDigit hl (fun hd => ?_) (fun hd => ?_)⟩
    · have hd2 := (pa_di hl).mp hd
      obtain ⟨hp, hc, e⟩ := pa_lt hl (by omega)
      refine fs_ki_of ?_
      rw [if_neg (by decide)]
      refine ⟨hl.isc, pa_takeNext hl hp (fun hl2 => ?_)⟩
      show w_LN_digits_L6 E K Post (k + 1) ln (nI most) ((lN d) * 10 + Int32.toInt64 (pa_c f n p - 48)) (nI i + 1) _
      rw [e, lN_dig hd2.1 hc, nI_1]
      refine ih (i + 1) _ (p + 1) _ hl2 (by omega) (fun h' hl3 hx => ?_)
      have hK2 := hK h'
      rw [ps_dg, if_pos hd2] at hK2
      exact hK2 hl3 (pa_x.trans pa_x.up hx)
    · have hd2 : ¬ (48 ≤ pa_n f n p ∧ pa_n f n p ≤ 57) := fun z => hd ((pa_di hl).mpr z)
      refine fs_ki_of ?_
      rw [if_pos rfl]
      have hK2 := hK h
      rw [ps_dg, if_neg hd2] at hK2
      exact hK2 hl pa_x.rf
/-- a new numeral -/
theorem cp_mkNum {E : fs_E} {h0 h : fs_Hp} {ln ch : Nat} {f : Nat → Int32} {n p p0 o mc ms c1 s1 d b : Nat} {Post : fs_Ps} (hl : pa_L E h ln ch f n p o) (hx : pa_x ln h0 h) (hln : h0 ln ≠ none) (hp : p0 < p) (hb : b ≤ 4) (hd : d < 10000000000000) (hm : 2 ≤ mc) (hs : 3 ≤ ms)
    (hK : ∀ (h' : fs_Hp) (q : Nat) (F : List Nat), pa_L E h' ln ch f n p o → pa_x ln h0 h' → rp (p - p0) E h' q [(0, nI b, 0, lN d)] F → F.Nodup → (∀ a ∈ F, h0 a = none) → Post (.inl (some (.ref q))) h') :
    ∀ a : Nat, h a = none → ∃ c9 s9 : Nat, c9 ≤ mc - 1 ∧ s9 ≤ ms - 3 ∧ (w_NU_init c9 s9 E (fs_up h a (.inr (4, [.long 0, .int 0, .null]))) a (lN d) (nI b) (fs_kv (fun h121 => Post (.inl (some (.ref a))) h121) (fun C_ h_ => Post (.inr C_) h_))) := by
  intro a ha
  refine ⟨mc - 1, ms - 3, Nat.le_refl _, Nat.le_refl _, mk_NU fs_up_self (by omega) (fun i h' hi hne e1 e2 e3 => ?_)⟩
  have he := mk_ext ha hi e3
  have hi2 := (up_none hi).2
  have hfr : ∀ q, h q = none → q ≠ ln → h0 q = none := fun q g1 g2 => by
    cases hz : h0 q with
    | none => rfl
    | some e9 =>
      have := hx q g2 (by rw [hz]; exact fun z => by cases z)
      rw [this, hz] at g1
      cases g1
  have hnl : ∀ q, h q = none → q ≠ ln := fun q g1 z => by
    rw [z, hl.1] at g1
    cases g1
  refine hK h' a [a, i] (hl.ext he) (fun q g1 g2 => ?_) ?_ ?_ ?_
  · have g3 := hx q g1 g2
    rw [he q (by rw [g3]; exact g2), g3]
  · obtain ⟨k, hk⟩ : ∃ k, p - p0 = k + 1 := ⟨p - p0 - 1, by omega⟩
    rw [hk]
    exact Or.inl ⟨b, d, i, _, hb, hd, e1, e2, rfl, rfl⟩
  · simp [Ne.symm hne]
  · intro q hq
    simp only [List.mem_cons, List.not_mem_nil, or_false] at hq
    rcases hq with rfl | rfl
    · exact hfr q ha (hnl q ha)
    · exact hfr q hi2 (hnl q hi2)
theorem cp_num {E : fs_E} {h : fs_Hp} {ln ch : Nat} {f : Nat → Int32} {n p o mc ms : Nat} {Post : fs_Ps} (hl : pa_L E h ln ch f n p o) (hd : 48 ≤ pa_n f n p ∧ pa_n f n p ≤ 57) (hm : 2 * ((ps_num (pa_n f n) p).2 - p) ≤ mc) (hs : 6 * ((ps_num (pa_n f n) p).2 - p) ≤ ms) (hK : pa_K E h ln ch f n p o (ps_num (pa_n f n) p) Post) : w_LN_numeral mc ms E h ln Post := by
  have hln : h ln ≠ none := by rw [hl.1]; exact fun z => by cases z
  have hge := ps_num_ge hd
  have h1 : p + 1 ≤ (ps_dg (pa_n f n) 9 p 0).2 := by
    rw [ps_dg, if_pos hd]
    exact ps_dg_ge (pa_n f n) 8 (p + 1) _
  have h2 := ps_dg_ge (pa_n f n) 4 ((ps_dg (pa_n f n) 9 p 0).2 + 1) (ps_dg (pa_n f n) 9 p 0).1
  have h3 := ps_dg_lt (pa_n f n) 9 p 0 1 (by omega)
  have h4 := ps_dg_lt (pa_n f n) 4 ((ps_dg (pa_n f n) 9 p 0).2 + 1) (ps_dg (pa_n f n) 9 p 0).1 1000000000 (by omega)
  have h5 := ps_dg_le (pa_n f n) 4 ((ps_dg (pa_n f n) 9 p 0).2 + 1) (ps_dg (pa_n f n) 9 p 0).1
  unfold ps_num at hm hs hK hge
  unfold w_LN_numeral
  refine ⟨hl.isc, 10, ?_⟩
  refine cp_digits (most := 9) (by omega) 9 0 0 p h hl (by omega) (fun h' hl1 hx1 => ?_)
  generalize ps_dg (pa_n f n) 9 p 0 = a at *
  refine ⟨hl1.isc, pa_take hl1 (by decide) (fun e hp hl2 => ?_) (fun e => ?_)⟩
  · have e2 : pa_n f n a.2 = 46 := (pa_ci hl1 (by omega) (by omega)).mp e
    rw [if_pos e2] at hm hs hK hge
    refine fs_ki_of ?_
    rw [if_neg (by decide)]
    refine fs_gi_of hl2.1 rfl ⟨hl2.isc, 5, ?_⟩
    refine cp_digits (most := 4) (by omega) 4 0 a.1 (a.2 + 1) _ hl2 (by omega) (fun h'' hl3 hx3 => ?_)
    generalize ps_dg (pa_n f n) 4 (a.2 + 1) a.1 = b at *
    refine fs_gi_of hl3.1 rfl ?_
    by_cases hc : b.2 = a.2 + 1
    · rw [if_pos hc] at hm hs hK hge
      rw [if_pos (by rw [hc])]
      have hK1 := hK.1 rfl h'' o
      rw [hc] at hl3
      exact hK1 hl3 (hx1.trans (pa_x.trans pa_x.up hx3))
    · rw [if_neg hc] at hm hs hK hge
      have hb2 := hl3.2.2.2.1
      have hn40 := hl3.2.2.1
      rw [if_neg (fun z => hc ((nI_eq (by omega) (by omega)).mp z))]
      have hm2 : 2 * (b.2 - p) ≤ mc := hm
      have hs2 : 6 * (b.2 - p) ≤ ms := hs
      refine ⟨by omega, by omega, fun a9 ha9 => ?_⟩
      refine fs_gi_of (hl3.new ha9).1 rfl ?_
      have e9 : nI b.2 - nI (a.2 + 1) = nI (b.2 - (a.2 + 1)) := pk_sub (by omega)
      rw [e9]
      exact cp_mkNum (mc := mc) (ms := ms) (c1 := 0) (s1 := 0) (p0 := p) hl3 (hx1.trans (pa_x.trans pa_x.up hx3)) hln (by omega) (by omega) (by omega) (by omega) (by omega) (fun h' q F => hK.2 _ rfl h' q F) a9 ha9
  · have e2 : ¬ pa_n f n a.2 = 46 := fun z => e ((pa_ci (c := 46) hl1 (by omega) (by omega)).mpr z)
    rw [if_neg e2] at hm hs hK hge
    refine fs_ki_of ?_
    rw [if_pos rfl]
    have hm2 : 2 * (a.2 - p) ≤ mc := hm
    have hs2 : 6 * (a.2 - p) ≤ ms := hs
    refine ⟨by omega, by omega, fun a9 ha9 => ?_⟩
    exact cp_mkNum (b := 0) (mc := mc) (ms := ms) (c1 := 0) (s1 := 0) (p0 := p) hl1 hx1 hln (by omega) (by omega) (by omega) (by omega) (by omega) (fun h' q F => hK.2 _ rfl h' q F) a9 ha9
