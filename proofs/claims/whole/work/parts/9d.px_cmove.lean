/-! Pure: the class copies a formula. -/
/-- nothing that lies in h changes -/
def ext (h h' : fs_Hp) : Prop := ∀ q, h q ≠ none → h' q = h q
theorem ext.rf {h : fs_Hp} : ext h h := fun _ _ => rfl
theorem ext.trans {h h1 h2 : fs_Hp} (a : ext h h1) (b : ext h1 h2) : ext h h2 := fun q hq => (b q (by rw [a q hq]; exact hq)).trans (a q hq)
theorem ext.up {h : fs_Hp} {a : Nat} {e : va_E} (ha : h a = none) : ext h (fs_up h a e) := fun _ hq => fs_up_ne fun z => hq (z ▸ ha)
theorem ext.nn0 {h h' : fs_Hp} (a : ext h h') {q : Nat} (hq : h' q = none) : h q = none := by
  cases e : h q with
  | none => rfl
  | some x =>
    have := a q (by rw [e]; exact fun z => by cases z)
    rw [hq, e] at this
    cases this
/-- where a copy lies: in new places, or in old ones that are no references -/
def mvF (h : fs_Hp) (F F' : List Nat) : Prop := F'.Nodup ∧ ∀ q ∈ F', h q = none ∨ (q ∈ F ∧ ∀ fs, h q ≠ some (.inr (5, fs)))
theorem kd_cong {n : Nat} {E : fs_E} {h : fs_Hp} {g g' : Nat → Option Nat} : ∀ {T : List Kd} {j : Nat}, kd n E h g j T → (∀ k, k < T.length → g' (j + k) = g (j + k)) → kd n E h g' j T := by
  intro T
  induction T with
  | nil => intro j _ _; trivial
  | cons x T ih =>
    intro j a e
    refine ⟨(e 0 (by rw [List.length_cons]; omega)).trans a.1, a.2.1, ih a.2.2 fun k hk => ?_⟩
    have := e (k + 1) (by rw [List.length_cons]; omega)
    rw [show j + (k + 1) = j + 1 + k by omega] at this
    exact this
theorem kd.byX {n : Nat} {E : fs_E} {h h' : fs_Hp} {g : Nat → Option Nat} {T : List Kd} {j : Nat} (a : kd n E h g j T) (hs : ∀ q ∈ kF T, h q ≠ none) (e : ext h h') : kd n E h' g j T := a.kept fun q hq => e q (hs q hq)
theorem kd.sm {n : Nat} {E : fs_E} {h : fs_Hp} {g : Nat → Option Nat} : ∀ {T : List Kd} {j : Nat}, kd n E h g j T → ∀ q ∈ kF T, h q ≠ none := by
  intro T
  induction T with
  | nil => intro j _ q hq; cases hq
  | cons x T ih =>
    intro j a q hq
    rcases List.mem_append.mp hq with hq | hq
    · exact a.2.1.some n q hq
    · exact ih a.2.2 q hq
theorem is_in {E : fs_E} {h : fs_Hp} {c r : Int32} {Post : fs_Ps} (K : Post (.inl (some (.int (if p_MO_out c r = 0 then 1 else 0)))) h) : w_SH_isInSheet E h c r Post := by
  have e8 : ∀ x : Int32, (7 < x) ↔ (8 ≤ x) := by
    intro x
    rw [Int32.lt_iff_toInt_lt, Int32.le_iff_toInt_le, show (7 : Int32).toInt = 7 by decide, show (8 : Int32).toInt = 8 by decide]
    omega
  have e10 : ∀ x : Int32, (x ≤ 9) ↔ ¬ (10 ≤ x) := by
    intro x
    rw [Int32.le_iff_toInt_le, Int32.le_iff_toInt_le, show (9 : Int32).toInt = 9 by decide, show (10 : Int32).toInt = 10 by decide]
    omega
  unfold p_MO_out at K
  unfold w_SH_isInSheet
  by_cases h1 : c < 0
  · rw [if_pos h1]
    rw [if_pos h1, if_neg (by decide)] at K
    exact K
  · rw [if_neg h1]
    rw [if_neg h1] at K
    by_cases h2 : 8 ≤ c
    · rw [if_pos h2]
      rw [if_pos ((e8 c).mpr h2), if_neg (by decide)] at K
      exact K
    · rw [if_neg h2]
      rw [if_neg (fun z => h2 ((e8 c).mp z))] at K
      by_cases h3 : r < 0
      · rw [if_pos h3]
        rw [if_pos h3, if_neg (by decide)] at K
        exact K
      · rw [if_neg h3]
        rw [if_neg h3] at K
        by_cases h4 : 10 ≤ r
        · rw [if_pos h4]
          rw [if_neg (fun z => ((e10 r).mp z) h4), if_neg (by decide)] at K
          exact K
        · rw [if_neg h4]
          rw [if_pos ((e10 r).mpr h4), if_pos rfl] at K
          exact K
/-- a copy of a reference -/
theorem re_moved {E : fs_E} {h : fs_Hp} {r mc ms : Nat} {x dx dy : Int32} {F : List Nat} {Post : fs_Ps} (t : tr_rf E h r x F) (hm : 2 ≤ mc) (hms : 6 ≤ ms) (K : ∀ h' r' i', h r' = none → h i' = none → r' ≠ i' → tr_rf E h' r' (mvx dx dy x) [r', i'] → ext h h' → Post (.inl (some (.ref r'))) h') : w_RE_shifted mc ms E h r dx dy Post := by
  obtain ⟨cf, rf, c, w, lo, i, g, h1, h2, h3, h4⟩ := t
  obtain ⟨A, B, hA, hB, eA, eB⟩ := h3.1
  have hnA : cf = 0 ↔ A = 0 := by
    rw [eA]
    have : A = 0 ∨ A = 1 := by omega
    rcases this with rfl | rfl <;> decide
  have hnB : rf = 0 ↔ B = 0 := by
    rw [eB]
    have : B = 0 ∨ B = 1 := by omega
    rcases this with rfl | rfl <;> decide
  have j41 : ∀ c' w' : Int32, (∀ lo', (lo' = 0 ∨ lo' = 1) → (lo' = (if lo = 0 then (if p_MO_out c' w' = 0 then 0 else 1) else 1)) → tr_code cf rf c' w' lo' (mvx dx dy x)) → w_RE_shifted_J41 E Post r c' w' mc ms h := by
    intro c' w' hcode
    unfold w_RE_shifted_J41
    refine ⟨by omega, hms, fun a ha => ?_⟩
    have hra : r ≠ a := fun z => by rw [z, ha] at h1; cases h1
    have h1' : fs_up h a (.inr (5, [.int 0, .int 0, .int 0, .int 0, .int 0, .null])) r = some (.inr (5, [.int cf, .int rf, .int c, .int w, .int lo, .ref i])) := fs_up_at hra h1
    refine fs_gi_of h1' rfl (fs_gi_of h1' rfl ⟨mc - 1, ms - 6, Nat.le_refl _, Nat.le_refl _, ?_⟩)
    rw [eA, eB]
    refine mk_RE fs_up_self (by omega) hA hB fun i' h' hi hne e1 e2 e3 => fs_kv_of ?_
    have hri : r ≠ i' := fun z => by rw [← z, h1'] at hi; cases hi
    have h1'' := (e3 r hra hri).trans h1'
    have hfin : ∀ lo', (lo' = 0 ∨ lo' = 1) → (lo' = (if lo = 0 then (if p_MO_out c' w' = 0 then 0 else 1) else 1)) → Post (.inl (some (.ref a))) (fs_up h' a (.inr (5, [.int (nI A), .int (nI B), .int c', .int w', .int lo', .ref i']))) := by
      intro lo' l1 l2
      refine K _ a i' ha (up_none hi).2 (Ne.symm hne) ⟨nI A, nI B, c', w', lo', i', _, fs_up_self, e2.kept (fs_up_ne hne), by rw [← eA, ← eB]; exact hcode lo' l1 l2, rfl⟩ ?_
      intro q hq
      have qa : q ≠ a := fun z => hq (z ▸ ha)
      rw [fs_up_ne qa]
      exact mk_ext ha hi e3 q hq
    refine fs_gi_of h1'' rfl ?_
    by_cases h0 : lo = 0
    · rw [if_pos h0]
      rw [if_pos h0] at hfin
      refine is_in (fs_ki_of ?_)
      by_cases ho : p_MO_out c' w' = 0
      · rw [if_pos ho, if_neg (show ¬ (1 : Int32) = 0 by decide)]
        rw [if_pos ho] at hfin
        exact fs_pw_of e1 (Nat.le_of_ble_eq_true rfl) (hfin 0 (Or.inl rfl) rfl)
      · rw [if_neg ho, if_pos rfl]
        rw [if_neg ho] at hfin
        exact fs_pw_of e1 (Nat.le_of_ble_eq_true rfl) (hfin 1 (Or.inr rfl) rfl)
    · rw [if_neg h0]
      rw [if_neg h0] at hfin
      exact fs_pw_of e1 (Nat.le_of_ble_eq_true rfl) (hfin 1 (Or.inr rfl) rfl)
  have main : w_RE_shifted_J41 E Post r (if cf = 0 then c + dx else c) (if rf = 0 then w + dy else w) mc ms h := by
    refine j41 _ _ fun lo' l1 l2 => ⟨h3.1, ?_⟩
    rcases h3.2 with ⟨k1, k2⟩ | ⟨k1, C, W, A', B', m1, m2, m3, m4, m5, m6, m7, m8, m9⟩
    · rw [if_neg (by rw [k1]; decide)] at l2
      exact Or.inl ⟨l2, by rw [k2, mv_512]⟩
    · rw [if_pos k1] at l2
      have a1 : A' = A := by
        have := m5.symm.trans eA
        have h1 := nI_clamp (n := A') (by omega)
        rw [this, nI_clamp (by omega)] at h1
        omega
      have b1 : B' = B := by
        have := m6.symm.trans eB
        have h1 := nI_clamp (n := B') (by omega)
        rw [this, nI_clamp (by omega)] at h1
        omega
      subst a1
      subst b1
      have ec : (if cf = 0 then c + dx else c) = if A' = 0 then nI C + dx else nI C := by
        rw [m7]
        by_cases hz : A' = 0
        · rw [if_pos (hnA.mpr hz), if_pos hz]
        · rw [if_neg (fun z => hz (hnA.mp z)), if_neg hz]
      have ew : (if rf = 0 then w + dy else w) = if B' = 0 then nI W + dy else nI W := by
        rw [m8]
        by_cases hz : B' = 0
        · rw [if_pos (hnB.mpr hz), if_pos hz]
        · rw [if_neg (fun z => hz (hnB.mp z)), if_neg hz]
      rw [ec, ew] at l2 ⊢
      rw [m9]
      rcases mv_dec m1 m2 m3 m4 dx dy with ⟨o, C', W', c1, c2, c3, c4, e1, e2⟩ | ⟨o, e1, e2⟩
      · rw [if_pos o] at l2
        exact Or.inr ⟨l2, C', W', A', B', c1, c2, m3, m4, m5, m6, c3, c4, e2⟩
      · rw [if_neg (by rw [o]; decide)] at l2
        exact Or.inl ⟨l2, e2⟩
  have j20 : w_RE_shifted_J20 E Post r dy (if cf = 0 then c + dx else c) mc ms h := by
    unfold w_RE_shifted_J20
    refine fs_gi_of h1 rfl ?_
    by_cases hz : rf = 0
    · rw [if_pos hz] at main ⊢
      exact fs_gi_of h1 rfl main
    · rw [if_neg hz] at main ⊢
      exact fs_gi_of h1 rfl main
  unfold w_RE_shifted
  refine fs_gi_of h1 rfl ?_
  by_cases hz : cf = 0
  · rw [if_pos hz] at j20 ⊢
    exact fs_gi_of h1 rfl j20
  · rw [if_neg hz] at j20 ⊢
    exact fs_gi_of h1 rfl j20
def mvRec (n mm : Nat) (E : fs_E) (dx dy : Int32) : Prop := ∀ {h : fs_Hp} {q mc ms : Nat} {L : List It} {F : List Nat} {Post : fs_Ps}, rp n E h q L F → F.Nodup → 6 * L.length ≤ mc → 20 * L.length ≤ ms → (∀ h' r' F', rp n E h' r' (L.map (itM dx dy)) F' → ext h h' → mvF h F F' → Post (.inl (some (.ref r'))) h') → w_N_moved mm mc ms E h q dx dy Post
theorem mv_L12 {n mm : Nat} {E : fs_E} {h0 : fs_Hp} {r c i m z3 : Nat} {fs : List Value} {g : Nat → Option Nat} {dx dy : Int32} {K : Nat → Nat → fs_Hp → Prop} {Post : fs_Ps} (hc : 4 ≤ c ∧ c ≤ 9) (hi : fs[fs_pi c]? = some (.ref i)) (hm : m < 100) (rec : mvRec n mm E dx dy) (h1 : h0 r = some (.inr (c, fs))) (h2 : tr_in E h0 i m g) (hz3 : h0 z3 = none) : ∀ (T D D' : List Kd) (h : fs_Hp) (g' : Nat → Option Nat) (bc bs : Nat), D'.length = D.length → D.length + T.length = m → 6 * (kL T).length ≤ bc → 20 * (kL T).length ≤ bs → kd n E h0 g 0 (D ++ T) → (kF (D ++ T)).Nodup → ext h0 h → tr_in E h z3 m g' → kd n E h g' 0 D' → z3 ∉ kF D' → mvF h0 (kF D) (kF D') → (∀ h' g'' T' bc' bs', bc - 6 * (kL T).length ≤ bc' → bs - 20 * (kL T).length ≤ bs' → T'.length = T.length → kL T' = (kL T).map (itM dx dy) → ext h0 h' → tr_in E h' z3 m g'' → kd n E h' g'' 0 (D' ++ T') → z3 ∉ kF (D' ++ T') → mvF h0 (kF (D ++ T)) (kF (D' ++ T')) → K bc' bs' h') → w_PT_moved_L12 (w_N_moved mm) E K Post (T.length + 1) r dx dy z3 (nI D'.length) bc bs h := by
  intro T
  induction T with
  | nil =>
    intro D D' h g' bc bs hl hj hbc hbs k0 nd he hz hD' hzD hmv hK
    rw [List.length_nil] at hj
    rw [w_PT_moved_L12]
    have h1' : h r = some (.inr (c, fs)) := (he r (by rw [h1]; exact fun z => by cases z)).trans h1
    have h2' : tr_in E h i m g := h2.kept (he i (by unfold tr_in at h2; rw [h2]; exact fun z => by cases z))
    refine fs_gP_of h1' hc hi (fs_an_of h2' ?_)
    rw [if_pos (show Int32.ofNat m ≤ nI D'.length from nI_le (by omega) (by omega))]
    refine hK h g' [] bc bs (by omega) (by omega) rfl rfl he hz (by rw [List.append_nil]; exact hD') (by rw [List.append_nil]; exact hzD) ?_
    rw [List.append_nil, List.append_nil]
    exact hmv
  | cons x T ih =>
    intro D D' h g' bc bs hl hj hbc hbs k0 nd he hz hD' hzD hmv hK
    rw [List.length_cons] at hj
    have hlen : (kL (x :: T)).length = x.2.1.length + (kL T).length := List.length_append
    rw [hlen] at hbc hbs
    obtain ⟨k1, k2⟩ := (kd_app D (x :: T) 0).mp k0
    rw [Nat.zero_add] at k2
    have nd' := nd
    rw [kF_app] at nd'
    have ndA := List.nodup_append.mp nd'
    have ndx := List.nodup_append.mp (show (x.2.2 ++ kF T).Nodup from ndA.2.1)
    have hxs := k2.2.1.some n
    have h1' : h r = some (.inr (c, fs)) := (he r (by rw [h1]; exact fun z => by cases z)).trans h1
    have h2' : tr_in E h i m g := h2.kept (he i (by unfold tr_in at h2; rw [h2]; exact fun z => by cases z))
    rw [w_PT_moved_L12]
    refine fs_gP_of h1' hc hi (fs_an_of h2' ?_)
    rw [if_neg (show ¬ Int32.ofNat m ≤ nI D'.length from nI_ge (by omega) (by omega))]
    refine fs_gP_of h1' hc hi (fs_aq_of h2' (nI_in (by omega) (by omega)) ?_)
    rw [nI_clamp (by omega), hl, k2.1]
    try dsimp only
    refine ⟨6 * x.2.1.length, 20 * x.2.1.length, by omega, by omega, ?_⟩
    refine rec (k2.2.1.kept n fun q hq => he q (hxs q hq)) ndx.1 (Nat.le_refl _) (Nat.le_refl _) fun hA r' F' a1 a2 a3 => fs_kr_of ?_
    have hz3s : h z3 ≠ none := by unfold tr_in at hz; rw [hz]; exact fun z => by cases z
    have hzA : tr_in E hA z3 m g' := hz.kept (a2 z3 hz3s)
    refine ⟨a1.isP, fs_sq_of hzA (nI_in (by omega) (by omega)) ?_⟩
    rw [nI_clamp (by omega), nI_1]
    have hzF' : z3 ∉ F' := by
      intro z
      rcases a3.2 z3 z with e | ⟨e, _⟩
      · exact hz3s e
      · exact hxs z3 e hz3
    have hB : ∃ hB, hB = fs_up hA z3 (.inl (E.1.2 6, m, .inr (.inr (.inr (.inr (va_up g' D.length (some r'))))))) := ⟨_, rfl⟩
    obtain ⟨hB, eB⟩ := hB
    rw [← eB]
    have gB : gx z3 hA hB := by rw [eB]; exact gx_up
    have hln : D.length + 1 = (D' ++ [(r', x.2.1.map (itM dx dy), F')]).length := by rw [List.length_append, hl]; rfl
    rw [hln]
    have vup : ∀ j, va_up g' D.length (some r') j = if j = D.length then some r' else g' j := fun j => rfl
    have hkF1 : kF [(r', x.2.1.map (itM dx dy), F')] = F' := List.append_nil _
    have hkFx : kF [x] = x.2.2 := List.append_nil _
    have he2 : ext h0 hB := fun q hq => (gB q fun z => hq (z ▸ hz3)).trans ((ext.trans he a2) q hq)
    refine ih (D ++ [x]) (D' ++ [(r', x.2.1.map (itM dx dy), F')]) hB (va_up g' D.length (some r')) (bc - 6 * x.2.1.length) (bs - 20 * x.2.1.length) (by rw [List.length_append, List.length_append, hl]; rfl) (by rw [List.length_append, List.length_singleton]; omega) (by omega) (by omega) (by rw [List.append_assoc]; exact k0) (by rw [List.append_assoc]; exact nd) he2 ?_ ?_ ?_ ?_ ?_
    · unfold tr_in
      rw [eB]
      exact fs_up_self
    · rw [kd_app, Nat.zero_add]
      refine ⟨kd_cong ((hD'.byX hD'.sm a2).kept fun q hq => gB q fun z => hzD (z ▸ hq)) fun k hk => ?_, ?_, a1.kept n fun q hq => gB q fun z => hzF' (z ▸ hq), trivial⟩
      · rw [vup, if_neg (by omega)]
      · rw [vup, if_pos hl]
    · rw [kF_app, hkF1, List.mem_append]
      exact fun z => by rcases z with z | z; exact hzD z; exact hzF' z
    · rw [kF_app D [x], hkFx, kF_app D', hkF1]
      refine ⟨List.nodup_append.mpr ⟨hmv.1, a3.1, fun p hp q hq hpq => ?_⟩, fun q hq => ?_⟩
      · subst hpq
        have hps := hD'.sm p hp
        rcases a3.2 p hq with e | ⟨e, _⟩
        · exact hps e
        · rcases hmv.2 p hp with e' | ⟨e', _⟩
          · exact hxs p e e'
          · exact ndA.2.2 p e' p (List.mem_append_left _ e) rfl
      · rcases List.mem_append.mp hq with hq | hq
        · rcases hmv.2 q hq with e | ⟨e, e'⟩
          · exact Or.inl e
          · exact Or.inr ⟨List.mem_append_left _ e, e'⟩
        · rcases a3.2 q hq with e | ⟨e, e'⟩
          · exact Or.inl (he.nn0 e)
          · refine Or.inr ⟨List.mem_append_right _ e, fun fs' z => e' fs' ?_⟩
            rw [he q (hxs q e)]
            exact z
    · intro h' g'' T' bc' bs' b1 b2 b3 b4 b5 b6 b7 b8 b9
      refine hK h' g'' ((r', x.2.1.map (itM dx dy), F') :: T') bc' bs' (by rw [hlen]; omega) (by rw [hlen]; omega) (by rw [List.length_cons, List.length_cons, b3]) ?_ b5 b6 ?_ ?_ ?_
      · show x.2.1.map (itM dx dy) ++ kL T' = (x.2.1 ++ kL T).map (itM dx dy)
        rw [b4, List.map_append]
      · rw [List.append_assoc] at b7; exact b7
      · rw [List.append_assoc] at b8; exact b8
      · rw [List.append_assoc, List.append_assoc] at b9; exact b9
theorem mv_PT {n mm : Nat} {E : fs_E} {h : fs_Hp} {r c i m mc ms : Nat} {fs : List Value} {g : Nat → Option Nat} {dx dy : Int32} {Post : fs_Ps} {T : List Kd} (hc : 4 ≤ c ∧ c ≤ 9) (hi : fs[fs_pi c]? = some (.ref i)) (rec : mvRec n mm E dx dy) (h1 : h r = some (.inr (c, fs))) (h2 : tr_in E h i m g) (hT : T.length = m) (hm : m ≤ 3) (hmc : 6 * (kL T).length + 1 ≤ mc) (hms : 20 * (kL T).length + 3 ≤ ms) (k0 : kd n E h g 0 T) (nd : (kF T).Nodup) (K : ∀ h' g' T' z3 bc bs, mc - 6 * (kL T).length - 1 ≤ bc → ms - 20 * (kL T).length - 3 ≤ bs → T'.length = T.length → kL T' = (kL T).map (itM dx dy) → ext h h' → h z3 = none → tr_in E h' z3 m g' → kd n E h' g' 0 T' → z3 ∉ kF T' → mvF h (kF T) (kF T') → ∃ c s : Nat, c ≤ bc ∧ s ≤ bs ∧ w_V_with c s E h' r z3 (fs_kr (fun a h => Post (.inl (some (.ref a))) h) (fun C_ h_ => Post (.inr C_) h_))) : w_PT_moved (w_N_moved mm) mc ms E h r dx dy Post := by
  unfold w_PT_moved
  refine fs_gP_of h1 hc hi (fs_an_of h2 ?_)
  have hcl : Int32.toNatClampNeg (Int32.ofNat m) = m := nI_clamp (n := m) (by omega)
  show ¬ (Int32.ofNat m : Int32) < 0 ∧ (Int32.toNatClampNeg (Int32.ofNat m)) * 4 ≤ 536870912 ∧ 1 ≤ mc ∧ (Int32.toNatClampNeg (Int32.ofNat m)) ≤ ms ∧ _
  rw [hcl]
  refine ⟨nI_pos (n := m) (by omega), by omega, by omega, by omega, fun z3 hz3 => ⟨T.length + 1, ?_⟩⟩
  refine mv_L12 (D := []) (D' := []) hc hi (by omega) rec h1 h2 hz3 T _ _ _ _ rfl (by rw [List.length_nil]; omega) (by omega) (by omega) k0 nd (ext.up hz3) fs_up_self trivial (fun z => by cases z) ⟨List.nodup_nil, fun q hq => by cases hq⟩ ?_
  intro h' g'' T' bc' bs' b1 b2 b3 b4 b5 b6 b7 b8 b9
  obtain ⟨c', s', c1, c2, c3⟩ := K h' g'' T' z3 bc' bs' (by omega) (by omega) b3 b4 b5 hz3 b6 b7 b8 b9
  refine ⟨c', s', c1, c2, ?_⟩
  exact c3
