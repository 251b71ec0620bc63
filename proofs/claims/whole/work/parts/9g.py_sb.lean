/-! Pure: the string builder. -/
theorem sh_r0 (x : Int32) : x >>> ((0 : Int32) &&& 31) = x := by
  apply Int32.toBitVec_inj.mp
  rw [Int32.toBitVec_shiftRight]
  rw [show ((0 : Int32) &&& 31).toBitVec.smod 32 = 0#32 by decide]
  rw [BitVec.sshiftRight_eq']
  simp
theorem sh_l0 (x : Int32) : x <<< ((0 : Int32) &&& 31) = x := by
  apply Int32.toBitVec_inj.mp
  rw [Int32.toBitVec_shiftLeft]
  rw [show ((0 : Int32) &&& 31).toBitVec.smod 32 = 0#32 by decide]
  rw [BitVec.shiftLeft_eq']
  simp
theorem nI_neg {a b : Nat} (h : a ≤ b) (hb : b < 2 ^ 30) : (nI a - nI b).toInt = (a : Int) - b := by
  rw [Int32.toInt_sub, nI_toInt (by omega), nI_toInt (by omega)]
  exact Int.bmod_eq_of_le (by omega) (by omega)
theorem sub_le0 {m c : Nat} (hm : m < 2 ^ 30) (hc : c < 2 ^ 30) : (nI m - nI c ≤ 0) ↔ m ≤ c := by
  by_cases h : m ≤ c
  · rw [Int32.le_iff_toInt_le, nI_neg h hc, show (0 : Int32).toInt = 0 by decide]
    omega
  · rw [nI_sub (by omega)]
    refine ⟨fun z => absurd z ?_, fun z => absurd z h⟩
    exact nI_ge (a := 0) (by omega) (by omega)
/-- how often it may still grow -/
def lev (c : Nat) : Nat := if 400 ≤ c then 0 else if 199 ≤ c then 1 else if 99 ≤ c then 2 else if 49 ≤ c then 3 else if 24 ≤ c then 4 else 5
def capN (c m : Nat) : Nat := if m ≤ c then c else max m (2 * c + 2)
theorem capN_ge (c m : Nat) : c ≤ capN c m ∧ m ≤ capN c m := by unfold capN; split <;> omega
theorem lev_capN {c m : Nat} (hc : 11 ≤ c) (hm : m ≤ 400) (h : ¬ m ≤ c) : lev (capN c m) + 1 ≤ lev c := by
  unfold capN
  rw [if_neg h]
  unfold lev
  repeat' split
  all_goals omega
theorem lev_le {c c' : Nat} (h : c ≤ c') : lev c' ≤ lev c := by
  unfold lev
  repeat' split
  all_goals omega
theorem lev_5 (c : Nat) : lev c ≤ 5 := by
  unfold lev
  repeat' split
  all_goals omega
/-- the builder at sb has the text t -/
def sbR (E : fs_E) (h : fs_Hp) (sb v cap : Nat) (t : List Nat) : Prop := ∃ (f : Nat → Int32) (x2 : Int32), h sb = some (.inr (11, [.ref v, .int 0, .int x2, .int (nI t.length)])) ∧ h v = some (.inl (E.1.2 5, cap, .inl f)) ∧ t.length ≤ cap ∧ cap < 2000 ∧ (∀ i, i < cap → ∃ c, c < 128 ∧ f i = nI c) ∧ ∀ i c, t[i]? = some c → f i = nI c
def gS (sb v : Nat) (h h' : fs_Hp) : Prop := ∀ q, q ≠ sb → q ≠ v → h q ≠ none → h' q = h q
theorem gS.rf {sb v : Nat} {h : fs_Hp} : gS sb v h h := fun _ _ _ _ => rfl
theorem gS.trans {sb v v1 : Nat} {h h1 h2 : fs_Hp} (a : gS sb v h h1) (hv : v1 = v ∨ h v1 = none) (b : gS sb v1 h1 h2) : gS sb v h h2 := by
  intro q q1 q2 q3
  have e := a q q1 q2 q3
  rw [b q q1 (fun z => by rcases hv with w | w; exact q2 (z.trans w); exact q3 (z ▸ w)) (by rw [e]; exact q3), e]
theorem fit_b : ∀ c, c < 128 → fits .byte (.int (nI c)) = true ∧ vp_nar .byte ((Int32.toInt8 (nI c)).toInt32) = nI c ∧ (255 < nI c ↔ False) := by decide
theorem sb_ens {E : fs_E} {h : fs_Hp} {sb v cap m mc ms : Nat} {t : List Nat} {Post : fs_Ps} (a : sbR E h sb v cap t) (hm : m ≤ 400) (htm : t.length ≤ m) (hc : 11 ≤ cap) (hmc : lev cap - lev (capN cap m) ≤ mc) (hms : 802 * (lev cap - lev (capN cap m)) ≤ ms) (K : ∀ h' v', sbR E h' sb v' (capN cap m) t → gS sb v h h' → (v' = v ∨ h v' = none) → Post (.inl none) h') : w_AB_ensureCapacityInternal mc ms E h sb (nI m) Post := by
  have a' := a
  obtain ⟨f, x2, h1, h2, h3, h4, h5, h6⟩ := a
  unfold w_AB_ensureCapacityInternal
  refine fs_gr_of h1 rfl (fs_an_of h2 (fs_gi_of h1 rfl ?_))
  rw [sh_r0]
  by_cases hle : m ≤ cap
  · rw [if_pos (show nI m - Int32.ofNat cap ≤ 0 from (sub_le0 (by omega) (by omega)).mpr hle)]
    have e : capN cap m = cap := by unfold capN; rw [if_pos hle]
    rw [e] at K
    exact K h v a' gS.rf (Or.inl rfl)
  · have hlev := lev_capN hc hm hle
    have hN : capN cap m = max m (2 * cap + 2) := by unfold capN; rw [if_neg hle]
    have hc4 : cap < 400 := by omega
    rw [if_neg (show ¬ nI m - Int32.ofNat cap ≤ 0 from fun z => hle ((sub_le0 (by omega) (by omega)).mp z))]
    refine fs_gr_of h1 rfl ⟨fs_isc_of h1, ?_⟩
    unfold w_AB_newCapacity
    refine fs_gr_of h1 rfl (fs_an_of h2 (fs_gi_of h1 rfl (fs_gi_of h1 rfl ?_)))
    rw [sh_l0, sh_l0]
    have e1 : (nI m - Int32.ofNat cap : Int32) = nI (m - cap) := nI_sub (by omega)
    have e2 : (Int32.ofNat cap + 2 : Int32) = nI (cap + 2) := nI_add cap 2
    have e3 : (Int32.ofNat cap + (if nI (m - cap) < nI (cap + 2) then nI (cap + 2) else nI (m - cap)) : Int32) = nI (capN cap m) := by
      rw [nI_max (by omega) (by omega), hN]
      show nI cap + nI (max (m - cap) (cap + 2)) = _
      rw [nI_add]
      congr 1
      omega
    show w_AS_newLength E h (Int32.ofNat cap) (nI m - Int32.ofNat cap) (Int32.ofNat cap + 2) _
    rw [e1, e2]
    unfold w_AS_newLength
    rw [e3, if_neg (show ¬ nI (capN cap m) ≤ 0 from nI_ge (a := 0) (by omega) (by omega)), if_neg (show ¬ (2147483639 : Int32) < nI (capN cap m) from nI_nlt (a := 2147483639) (by omega) (by omega))]
    refine fs_ki_of ?_
    rw [if_neg (show ¬ nI (capN cap m) = 2147483647 from fun z => by
      have := congrArg Int32.toInt z
      rw [nI_toInt (by omega), show (2147483647 : Int32).toInt = 2147483647 by decide] at this
      omega)]
    refine fs_gi_of h1 rfl (fs_ki_of (fs_gi_of h1 rfl ?_))
    rw [sh_r0, sh_l0]
    refine ⟨1, capN cap m, by omega, ?_, ?_⟩
    · have : capN cap m ≤ 802 := by omega
      have : 802 * 1 ≤ 802 * (lev cap - lev (capN cap m)) := Nat.mul_le_mul_left _ (by omega)
      omega
    unfold w_AR_copyOf
    refine fs_an_of h2 ?_
    rw [if_neg (show ¬ nI (capN cap m) = Int32.ofNat cap from fun z => by
      have e : nI (capN cap m) = nI cap := z
      have h1 := nI_clamp (n := capN cap m) (by omega)
      rw [e, nI_clamp (by omega)] at h1
      omega), nI_clamp (by omega)]
    refine ⟨nI_pos (by omega), by omega, Nat.le_refl _, Nat.le_refl _, fun a ha => ?_⟩
    have hva : v ≠ a := fun z => by rw [z, ha] at h2; cases h2
    have hsa : sb ≠ a := fun z => by rw [z, ha] at h1; cases h1
    refine fs_an_of (fs_up_at hva h2) ⟨_, ⟨cap, capN cap m, f, fun _ => 0, fs_up_at hva h2, fs_up_self, by decide, by decide, ?_, ?_, ?_, ?_, rfl⟩, fs_kr_of ?_⟩
    · rw [if_neg (show ¬ nI (capN cap m) < Int32.ofNat cap from nI_nlt (b := cap) (by omega) (by omega))]
      exact nI_pos (n := cap) (by omega)
    · rw [if_neg (show ¬ nI (capN cap m) < Int32.ofNat cap from nI_nlt (b := cap) (by omega) (by omega)), show (Int32.ofNat cap).toNatClampNeg = cap from nI_clamp (n := cap) (by omega), vp_nar0]
      omega
    · rw [if_neg (show ¬ nI (capN cap m) < Int32.ofNat cap from nI_nlt (b := cap) (by omega) (by omega)), show (Int32.ofNat cap).toNatClampNeg = cap from nI_clamp (n := cap) (by omega), vp_nar0]
      omega
    · rw [if_neg (show ¬ nI (capN cap m) < Int32.ofNat cap from nI_nlt (b := cap) (by omega) (by omega)), show (Int32.ofNat cap).toNatClampNeg = cap from nI_clamp (n := cap) (by omega), vp_nar0]
      intro i hi
      rw [Nat.zero_add]
      obtain ⟨c, c1, c2⟩ := h5 i hi
      rw [c2]
      exact (fit_b c c1).1
    · rw [if_neg (show ¬ nI (capN cap m) < Int32.ofNat cap from nI_nlt (b := cap) (by omega) (by omega)), show (Int32.ofNat cap).toNatClampNeg = cap from nI_clamp (n := cap) (by omega), vp_nar0]
      refine fs_pw_of (fs_up_at hsa (fs_up_at hsa h1)) (Nat.le_of_ble_eq_true rfl) (K _ a ⟨va_cpy f (fun _ => 0) 0 0 cap, x2, fs_up_self, fs_up_at (Ne.symm hsa) fs_up_self, by omega, by omega, fun i hi => ?_, fun i c hi => ?_⟩ (fun q q1 q2 q3 => ?_) (Or.inr ha))
      · unfold va_cpy
        by_cases hic : i < cap
        · rw [if_pos (by omega), Nat.zero_add, Nat.sub_zero]
          exact h5 i hic
        · rw [if_neg (by omega)]
          exact ⟨0, by omega, rfl⟩
      · have hil := (List.getElem?_eq_some_iff.mp hi).1
        unfold va_cpy
        rw [if_pos (by omega), Nat.zero_add, Nat.sub_zero]
        exact h6 i c hi
      · have qa : q ≠ a := fun z => q3 (z ▸ ha)
        rw [fs_up_ne q1, fs_up_ne qa, fs_up_ne qa]
theorem sb_add {E : fs_E} {h : fs_Hp} {sb v cap : Nat} {t : List Nat} {f : Nat → Int32} {x2 : Int32} {u : List Nat} (h3 : (t ++ u).length ≤ cap) (h4 : cap < 2000) (h5 : ∀ i, i < cap → ∃ c, c < 128 ∧ f i = nI c) (hsb : h sb = some (.inr (11, [.ref v, .int 0, .int x2, .int (nI (t ++ u).length)]))) (hv : h v = some (.inl (E.1.2 5, cap, .inl f))) (h6 : ∀ i c, (t ++ u)[i]? = some c → f i = nI c) : sbR E h sb v cap (t ++ u) := ⟨f, x2, hsb, hv, h3, h4, h5, h6⟩
theorem sb_chr {E : fs_E} {h : fs_Hp} {sb v cap c mc ms : Nat} {t : List Nat} {Post : fs_Ps} (a : sbR E h sb v cap t) (hc8 : c < 128) (hm : t.length + 1 ≤ 400) (hc : 11 ≤ cap) (hmc : lev cap - lev (capN cap (t.length + 1)) ≤ mc) (hms : 802 * (lev cap - lev (capN cap (t.length + 1))) ≤ ms) (K : ∀ h' v', sbR E h' sb v' (capN cap (t.length + 1)) (t ++ [c]) → gS sb v h h' → (v' = v ∨ h v' = none) → Post (.inl (some (.ref sb))) h') : w_SB_append_882 mc ms E h sb (nI c) Post := by
  have a' := a
  obtain ⟨f, x2, h1, h2, h3, h4, h5, h6⟩ := a
  refine ⟨mc, ms, Nat.le_refl _, Nat.le_refl _, fs_isc_of h1, ?_⟩
  unfold w_AB_append_b10
  refine fs_gi_of h1 rfl ⟨mc, ms, Nat.le_refl _, Nat.le_refl _, fs_isc_of h1, ?_⟩
  rw [nI_1]
  refine sb_ens a' hm (by omega) hc hmc hms fun h' v' b1 b2 b3 => fs_kv_of ?_
  obtain ⟨f', x2', g1, g2, g3, g4, g5, g6⟩ := b1
  have hge := capN_ge cap (t.length + 1)
  refine ⟨fs_isc_of g1, fs_gi_of g1 rfl ?_⟩
  rw [if_pos rfl]
  refine fs_ki_of ?_
  rw [if_neg (show ¬ (1 : Int32) = 0 by decide)]
  unfold w_SL_canEncode
  rw [if_neg (fun z => (fit_b c hc8).2.2.mp z)]
  refine fs_ki_of ?_
  rw [if_neg (show ¬ (1 : Int32) = 0 by decide)]
  have hvs : v' ≠ sb := fun z => by rw [z, g1] at g2; cases g2
  refine fs_gr_of g1 rfl (fs_gi_of g1 rfl (fs_pw_of g1 (Nat.le_of_ble_eq_true rfl) (fs_si_of (fs_up_at hvs g2) (nI_in (by omega) (by omega)) (fs_kr_of ?_))))
  rw [nI_clamp (by omega), (fit_b c hc8).2.1, nI_1]
  refine K _ v' ⟨upd f' t.length (nI c), x2', ?_, fs_up_self, by rw [List.length_append]; exact hge.2, g4, fun i hi => ?_, fun i d hi => ?_⟩ (fun q q1 q2 q3 => ?_) b3
  · rw [List.length_append]
    exact fs_up_at (Ne.symm hvs) fs_up_self
  · rw [upd_at]
    split
    · exact ⟨c, hc8, rfl⟩
    · exact g5 i hi
  · rw [upd_at]
    by_cases hlt : i < t.length
    · rw [if_neg (by omega)]
      rw [List.getElem?_append_left hlt] at hi
      exact g6 i d hi
    · have hl := (List.getElem?_eq_some_iff.mp hi).1
      rw [List.length_append, List.length_singleton] at hl
      have e : i = t.length := by omega
      rw [if_pos e]
      rw [e, List.getElem?_concat_length] at hi
      cases hi
      rfl
  · have qv : q ≠ v' := fun z => by
      rcases b3 with w | w
      · exact q2 (z.trans w)
      · exact q3 (z ▸ w)
    rw [fs_up_ne qv, fs_up_ne q1]
    exact b2 q q1 q2 q3
