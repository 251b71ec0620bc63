/-! Pure: the class reads a name. -/
theorem ps_ob_f : ∀ j, j < 8 → (Int32.ofNat (fs_ob j).length >>> ((0 : Int32) &&& 31) = nI (ps_ob j).length ∧ (ps_ob j).length = (fs_ob j).length ∧ (ps_ob j).length ≤ 4 ∧ 3 ≤ (ps_ob j).length ∧ ∀ c ∈ ps_ob j, 0 < c ∧ c < 128) := by decide
theorem ps_ob_g : ∀ j, j < 8 → ∀ k, k < 4 → k < (ps_ob j).length → ((Int32.toUInt32 (((fs_ob j).getD k 0) &&& (255 : Int32)) % 65536).toInt32 = nI ((ps_ob j).getD k 0)) := by decide
theorem st_len {E : fs_E} {h : fs_Hp} {j : Nat} {Post : fs_Ps} (hj : j < 8) (hk : Post (.inl (some (.int (nI (ps_ob j).length)))) h) : w_ST_length E h j Post := by
  refine ⟨hj, hj, hj, hj, fs_ki_of ?_⟩
  rw [(ps_ob_f j hj).1]
  exact hk
theorem st_chr {E : fs_E} {h : fs_Hp} {j k : Nat} {Post : fs_Ps} (hj : j < 8) (hl : k < (ps_ob j).length) (hk : Post (.inl (some (.int (nI ((ps_ob j).getD k 0))))) h) : w_ST_charAt E h j (nI k) Post := by
  obtain ⟨-, e2, h4, -, -⟩ := ps_ob_f j hj
  have e := ps_ob_g j hj k (by omega) hl
  refine ⟨hj, hj, fs_ki_of ?_⟩
  rw [if_neg (by decide)]
  refine ⟨hj, hj, fun o => ?_⟩
  unfold w_PC_checkIndex
  rw [if_neg (nI_pos (by omega)), if_pos (show nI k < Int32.ofNat (fs_ob j).length from nI_lt (a := k) (b := (fs_ob j).length) (by omega) (by omega))]
  refine fs_ki_of (fs_kv_of ⟨hj, vp_in_nI (by omega) (by omega), ?_⟩)
  rw [nI_clamp (by omega), e]
  have hc : narrow .char (.int (nI ((ps_ob j).getD k 0))) = .int (nI ((ps_ob j).getD k 0)) := by
    rw [← e]
    exact pk_nc _
  exact ⟨hc, fs_ki_of ⟨hc, hk⟩⟩
theorem ps_same_le {C : Nat → Nat} {n : Nat} (h0 : ∀ q, n ≤ q → C q = 0) : ∀ (l : List Nat) (p : Nat), (∀ c ∈ l, 0 < c) → p ≤ n → p + ps_same C l p ≤ n := by
  intro l
  induction l with
  | nil => intro p _ hp; exact hp
  | cons c l ih =>
    intro p hc hp
    rw [ps_same]
    split
    · next e =>
      have h1 : p < n := by
        by_cases z : p < n
        · exact z
        · have := h0 p (by omega)
          have := hc c (by simp)
          omega
      have := ih (p + 1) (fun c hc' => hc c (by simp [hc'])) (by omega)
      omega
    · omega
theorem ps_most_le {g : Nat → Nat} {M : Nat} : ∀ k, (∀ j, j < k → g j ≤ M) → ps_most g k ≤ M := by
  intro k
  induction k with
  | zero => intro _; exact Nat.zero_le _
  | succ k ih =>
    intro h
    rw [ps_most]
    have h1 := ih (fun j hj => h j (by omega))
    have h2 := h k (by omega)
    omega
theorem pa_n0 {f : Nat → Int32} {n : Nat} : ∀ q, n ≤ q → pa_n f n q = 0 := fun q hq => by rw [pa_n, if_neg (by omega)]
theorem cp_same {E : fs_E} {h : fs_Hp} {ln ch : Nat} {f : Nat → Int32} {n p o j : Nat} {K : Int32 → fs_Hp → Prop} {Post : fs_Ps} (hl : pa_L E h ln ch f n p o) (hj : j < 8) : ∀ (m k : Nat), k + m = (ps_ob j).length → p + k ≤ n → K (nI (k + ps_same (pa_n f n) ((ps_ob j).drop k) (p + k))) h → w_LN_sameAs_L2 E K Post (m + 1) ln j (nI k) h := by
  obtain ⟨-, -, h4, -, hpos⟩ := ps_ob_f j hj
  have hn := hl.2.2.1
  intro m
  induction m with
  | zero =>
    intro k hk hpk hK
    rw [w_LN_sameAs_L2]
    dsimp only
    refine ⟨hj, st_len hj (fs_ki_of ?_)⟩
    rw [if_pos (nI_le (by omega) (by omega))]
    rw [List.drop_of_length_le (by omega)] at hK
    exact hK
  | succ m ih =>
    intro k hk hpk hK
    have hkl : k < (ps_ob j).length := by omega
    have ed : (ps_ob j).drop k = (ps_ob j).getD k 0 :: (ps_ob j).drop (k + 1) := by
      rw [List.drop_eq_getElem_cons hkl, List.getD_eq_getElem?_getD, List.getElem?_eq_getElem hkl]
      rfl
    have hc := hpos ((ps_ob j).getD k 0) (by
      rw [List.getD_eq_getElem?_getD, List.getElem?_eq_getElem hkl]
      exact List.getElem_mem hkl)
    rw [ed, ps_same] at hK
    rw [w_LN_sameAs_L2]
    dsimp only
    refine ⟨hj, st_len hj (fs_ki_of ?_)⟩
    rw [if_neg (nI_ge (by omega) (by omega))]
    refine fs_gi_of hl.1 rfl (fs_gi_of hl.1 rfl ?_)
    rw [nI_add]
    by_cases hpn : n ≤ p + k
    · rw [if_pos (nI_le hpn (by omega))]
      rw [if_neg (by rw [pa_n0 _ hpn]; omega)] at hK
      exact hK
    · rw [if_neg (nI_ge (by omega) (by omega))]
      refine fs_gr_of hl.1 rfl (fs_gi_of hl.1 rfl ?_)
      rw [nI_add]
      refine fs_ai_of hl.2.1 (vp_in_nI (by omega) (by omega)) ⟨hj, st_chr hj hkl (fs_ki_of ?_)⟩
      rw [nI_clamp (by omega)]
      obtain ⟨c, hc1, hc2⟩ := hl.2.2.2.2.2 (p + k) (by omega)
      have en : pa_n f n (p + k) = c := by
        rw [pa_n, if_pos (by omega), hc2, nI_clamp (by omega)]
      rw [hc2]
      by_cases he : c = (ps_ob j).getD k 0
      · rw [if_pos (by rw [he])]
        rw [if_pos (by rw [en, he])] at hK
        rw [nI_1]
        refine ih (k + 1) (by omega) (by omega) ?_
        rw [show p + (k + 1) = p + k + 1 by omega, show k + 1 + ps_same (pa_n f n) ((ps_ob j).drop (k + 1)) (p + k + 1) = k + (ps_same (pa_n f n) ((ps_ob j).drop (k + 1)) (p + k + 1) + 1) by omega]
        exact hK
      · rw [if_neg (fun z => he ((nI_eq (by omega) (by omega)).mp z))]
        rw [if_neg (by rw [en]; exact he)] at hK
        exact hK
theorem nI_max {a b : Nat} (ha : a < 2 ^ 31) (hb : b < 2 ^ 31) : (if nI a < nI b then nI b else nI a) = nI (max a b) := by
  by_cases h : a < b
  · rw [if_pos (nI_lt h hb), Nat.max_eq_right (by omega)]
  · rw [if_neg (nI_nlt (by omega) ha), Nat.max_eq_left (by omega)]
theorem cp_nameL {E : fs_E} {h : fs_Hp} {ln ch : Nat} {f : Nat → Int32} {n p o : Nat} {K : Option Nat → Int32 → fs_Hp → Prop} {Post : fs_Ps} (hl : pa_L E h ln ch f n p o) (hK : K ((ps_last (fun j => ps_same (pa_n f n) (ps_ob j) p == (ps_ob j).length) 8).map E.2) (nI (ps_most (fun j => ps_same (pa_n f n) (ps_ob j) p) 8)) h) :
    ∀ (m i : Nat), i + m = 8 → w_LN_name_L6 E K Post (m + 1) ln ((ps_last (fun j => ps_same (pa_n f n) (ps_ob j) p == (ps_ob j).length) i).map E.2) (nI (ps_most (fun j => ps_same (pa_n f n) (ps_ob j) p) i)) (nI i) h := by
  have hsm : ∀ j, j < 8 → ps_same (pa_n f n) (ps_ob j) p ≤ 40 := fun j hj => by
    have := ps_same_le (C := pa_n f n) (n := n) pa_n0 (ps_ob j) p (fun c hc => ((ps_ob_f j hj).2.2.2.2 c hc).1) hl.2.2.2.1
    have := hl.2.2.1
    omega
  have hmost : ∀ i, i ≤ 8 → ps_most (fun j => ps_same (pa_n f n) (ps_ob j) p) i ≤ 40 := fun i hi => ps_most_le i (fun j hj => hsm j (by omega))
  intro m
  induction m with
  | zero =>
    intro i hi
    obtain rfl : i = 8 := by omega
    rw [w_LN_name_L6]
    cases hz : ps_last (fun j => ps_same (pa_n f n) (ps_ob j) p == (ps_ob j).length) 8 with
    | none =>
      rw [hz] at hK
      show (if Int32.ofNat 8 ≤ nI 8 then _ else _)
      rw [if_pos (by decide)]
      exact hK
    | some j =>
      rw [hz] at hK
      show (if Int32.ofNat 8 ≤ nI 8 then _ else _)
      rw [if_pos (by decide)]
      exact hK
  | succ m ih =>
    intro i hi
    have hi8 : i < 8 := by omega
    have ih1 := ih (i + 1) (by omega)
    have hstep : ∀ o1 : Option Nat, o1 = (ps_last (fun j => ps_same (pa_n f n) (ps_ob j) p == (ps_ob j).length) (i + 1)).map E.2 → w_LN_name_L6_J50 (w_LN_name_L6 E K Post (m + 1)) E K Post ln o1 (nI (ps_most (fun j => ps_same (pa_n f n) (ps_ob j) p) i)) (nI i) (nI (ps_same (pa_n f n) (ps_ob i) p)) h := by
      intro o1 ho
      have e1 : (if nI (ps_most (fun j => ps_same (pa_n f n) (ps_ob j) p) i) < nI (ps_same (pa_n f n) (ps_ob i) p) then nI (ps_same (pa_n f n) (ps_ob i) p) else nI (ps_most (fun j => ps_same (pa_n f n) (ps_ob j) p) i)) = nI (ps_most (fun j => ps_same (pa_n f n) (ps_ob j) p) (i + 1)) := by
        have := hmost i (by omega)
        have := hsm i hi8
        rw [nI_max (by omega) (by omega)]
        rfl
      have e2 : nI i + 1 = nI (i + 1) := nI_1 i
      rw [← ho] at ih1
      unfold w_LN_name_L6_J50
      rw [e1, e2]
      cases o1 with
      | none => exact ih1
      | some a => exact ih1
    have hin : vp_in (nI i) 8 := vp_in_nI hi8 (by omega)
    have ecl : (nI i).toNatClampNeg = i := nI_clamp (by omega)
    have hlast : ps_last (fun j => ps_same (pa_n f n) (ps_ob j) p == (ps_ob j).length) (i + 1) = if (ps_same (pa_n f n) (ps_ob i) p == (ps_ob i).length) then some i else ps_last (fun j => ps_same (pa_n f n) (ps_ob j) p == (ps_ob j).length) i := rfl
    have body : ∀ o0 : Option Nat, o0 = (ps_last (fun j => ps_same (pa_n f n) (ps_ob j) p == (ps_ob j).length) i).map E.2 → (vp_in (nI i) 8 ∧ (∃ j105 : Nat, j105 < 8 ∧ (E.2 (Int32.toNatClampNeg (nI i))) = E.2 j105 ∧ fs_isc h ln 1 ∧ (w_LN_sameAs E h ln j105 (fs_ki (fun x107 h106 => (vp_in (nI i) 8 ∧ (∃ j108 : Nat, j108 < 8 ∧ (E.2 (Int32.toNatClampNeg (nI i))) = E.2 j108 ∧ (j108 < 8 ∧ w_ST_length E h106 j108 (fs_ki (fun x110 h109 => (if x107 = x110 then (vp_in (nI i) 8 ∧ w_LN_name_L6_J50 (w_LN_name_L6 E K Post (m + 1)) E K Post ln (some (E.2 (Int32.toNatClampNeg (nI i)))) (nI (ps_most (fun j => ps_same (pa_n f n) (ps_ob j) p) i)) (nI i) x107 h109) else w_LN_name_L6_J50 (w_LN_name_L6 E K Post (m + 1)) E K Post ln o0 (nI (ps_most (fun j => ps_same (pa_n f n) (ps_ob j) p) i)) (nI i) x107 h109)) (fun C_ h_ => Post (.inr C_) h_)))))) (fun C_ h_ => Post (.inr C_) h_))))) := by
      intro o0 ho
      rw [ecl]
      refine ⟨hin, i, hi8, rfl, hl.isc, (ps_ob i).length + 1, cp_same hl hi8 (ps_ob i).length 0 (by omega) hl.2.2.2.1 (fs_ki_of ?_)⟩
      rw [List.drop_zero, Nat.zero_add, Nat.add_zero]
      refine ⟨hin, i, hi8, rfl, hi8, st_len hi8 (fs_ki_of ?_)⟩
      have h4 := (ps_ob_f i hi8).2.2.1
      have h5 := hsm i hi8
      by_cases he : ps_same (pa_n f n) (ps_ob i) p = (ps_ob i).length
      · rw [if_pos (by rw [he])]
        refine ⟨hin, hstep _ ?_⟩
        rw [hlast, if_pos (by rw [he]; exact beq_self_eq_true _)]
        rfl
      · rw [if_neg (fun z => he ((nI_eq (by omega) (by omega)).mp z))]
        refine hstep _ ?_
        rw [hlast, if_neg (fun z => he (eq_of_beq z))]
        exact ho
    rw [w_LN_name_L6]
    have hlt : ¬ Int32.ofNat 8 ≤ nI i := nI_ge (a := i) (b := 8) hi8 (by decide)
    cases hz : ps_last (fun j => ps_same (pa_n f n) (ps_ob j) p == (ps_ob j).length) i with
    | none =>
      show (if Int32.ofNat 8 ≤ nI i then _ else _)
      rw [if_neg hlt]
      exact body none (by rw [hz]; rfl)
    | some j =>
      show (if Int32.ofNat 8 ≤ nI i then _ else _)
      rw [if_neg hlt]
      exact body (some (E.2 j)) (by rw [hz]; rfl)
theorem cp_name {E : fs_E} {h : fs_Hp} {ln ch : Nat} {f : Nat → Int32} {n p o : Nat} {Post : fs_Ps} (hl : pa_L E h ln ch f n p o)
    (hN : (ps_nm (pa_n f n) p).1 = none → ∀ h', pa_L E h' ln ch f n (ps_nm (pa_n f n) p).2 o → pa_x ln h h' → Post (.inl (some .null)) h')
    (hS : ∀ j, (ps_nm (pa_n f n) p).1 = some j → ∀ h', pa_L E h' ln ch f n (ps_nm (pa_n f n) p).2 o → pa_x ln h h' → Post (.inl (some (.ref (E.2 j)))) h') : w_LN_name E h ln Post := by
  unfold w_LN_name
  refine ⟨9, cp_nameL hl ?_ 8 0 (by omega)⟩
  have hle : p + ps_most (fun j => ps_same (pa_n f n) (ps_ob j) p) 8 ≤ n := by
    have h1 := ps_most_le (g := fun j => ps_same (pa_n f n) (ps_ob j) p) (M := n - p) 8 (fun j hj => by
      have := ps_same_le (C := pa_n f n) (n := n) pa_n0 (ps_ob j) p (fun c hc => ((ps_ob_f j hj).2.2.2.2 c hc).1) hl.2.2.2.1
      show ps_same (pa_n f n) (ps_ob j) p ≤ n - p
      omega)
    have := hl.2.2.2.1
    omega
  have hl2 := hl.at hle hl.2.2.2.2.1
  unfold ps_nm at hN hS
  cases hz : ps_last (fun j => ps_same (pa_n f n) (ps_ob j) p == (ps_ob j).length) 8 with
  | none =>
    show fs_gi h ln 1 2 _
    refine fs_gi_of hl.1 rfl (fs_pw_of hl.1 (Nat.le_of_ble_eq_true rfl) ?_)
    rw [nI_add]
    exact hN hz _ hl2 pa_x.up
  | some j =>
    show fs_gi h ln 1 2 _
    refine fs_gi_of hl.1 rfl (fs_pw_of hl.1 (Nat.le_of_ble_eq_true rfl) ?_)
    rw [nI_add]
    exact hS j hz _ hl2 pa_x.up
theorem ps_last_lt {P : Nat → Bool} : ∀ k j, ps_last P k = some j → j < k ∧ P j = true := by
  intro k
  induction k with
  | zero => intro j h; cases h
  | succ k ih =>
    intro j h
    rw [ps_last] at h
    split at h
    · next hp =>
      cases h
      exact ⟨Nat.lt_succ_self _, hp⟩
    · obtain ⟨h1, h2⟩ := ih j h
      exact ⟨by omega, h2⟩
theorem ps_nm_lt {C : Nat → Nat} {p j : Nat} (h : (ps_nm C p).1 = some j) : j < 8 := (ps_last_lt (P := fun j => ps_same C (ps_ob j) p == (ps_ob j).length) 8 j h).1
