/-! Pure: the class's references follow the rows, in place. -/
def reI (r w lo : Int32) : Int32 × Int32 := if lo = 0 then (if r ≤ w then (w + 1, if w + 1 < 10 then 0 else 1) else (w, lo)) else (w, lo)
def reO (r w lo : Int32) : Int32 × Int32 := if lo = 0 then (if r ≤ w then (w - 1, if w = r then 1 else 0) else (w, lo)) else (w, lo)
def reK (p : Int32 × Int32) : Int32 × Int32 := if p.2 = 0 then p else (9, 0)
def re5 (cf rf c : Int32) (p : Int32 × Int32) (i : Nat) : va_E := .inr (5, [.int cf, .int rf, .int c, .int p.1, .int p.2, .ref i])
theorem gx_up {h : fs_Hp} {a : Nat} {e : va_E} : gx a h (fs_up h a e) := fun _ hq => fs_up_ne hq
theorem re_in {self : fs_E → fs_Hp → Nat → Int32 → fs_Ps → Prop} {E : fs_E} {h : fs_Hp} {a i : Nat} {cf rf c w lo r : Int32} {Post : fs_Ps} (ha : h a = some (re5 cf rf c (w, lo) i)) (K : ∀ h', h' a = some (re5 cf rf c (reI r w lo) i) → gx a h h' → Post (.inl none) h') : w_RE_followRowIn self E h a r Post := by
  unfold re5 at ha
  unfold w_RE_followRowIn
  refine fs_gi_of ha rfl ?_
  by_cases h0 : lo = 0
  · rw [if_pos h0]
    refine fs_gi_of ha rfl ?_
    by_cases h1 : r ≤ w
    · rw [if_pos h1]
      refine fs_gi_of ha rfl (fs_pw_of ha (Nat.le_of_ble_eq_true rfl) (fs_gi_of fs_up_self rfl ?_))
      by_cases h2 : w + 1 < 10
      · rw [if_pos h2]
        refine fs_pw_of fs_up_self (Nat.le_of_ble_eq_true rfl) (K _ ?_ (gx.trans gx_up gx_up))
        unfold re5 reI
        rw [if_pos h0, if_pos h1, if_pos h2]
        exact fs_up_self
      · rw [if_neg h2]
        refine fs_pw_of fs_up_self (Nat.le_of_ble_eq_true rfl) (K _ ?_ (gx.trans gx_up gx_up))
        unfold re5 reI
        rw [if_pos h0, if_pos h1, if_neg h2]
        exact fs_up_self
    · rw [if_neg h1]
      refine K h ?_ gx.rf
      unfold re5 reI
      rw [if_pos h0, if_neg h1]
      exact ha
  · rw [if_neg h0]
    refine K h ?_ gx.rf
    unfold re5 reI
    rw [if_neg h0]
    exact ha
theorem re_in_d {E : fs_E} {h : fs_Hp} {a i : Nat} {cf rf c w lo r : Int32} {Post : fs_Ps} (ha : h a = some (re5 cf rf c (w, lo) i)) (K : ∀ h', h' a = some (re5 cf rf c (reI r w lo) i) → gx a h h' → Post (.inl none) h') : w_RE_followRowIn_d E h a r Post := re_in (E := E) (self := fun _ _ _ _ _ => True) ha K
theorem re_out {self : fs_E → fs_Hp → Nat → Int32 → fs_Ps → Prop} {E : fs_E} {h : fs_Hp} {a i : Nat} {cf rf c w lo r : Int32} {Post : fs_Ps} (ha : h a = some (re5 cf rf c (w, lo) i)) (K : ∀ h', h' a = some (re5 cf rf c (reO r w lo) i) → gx a h h' → Post (.inl none) h') : w_RE_followRowOut self E h a r Post := by
  unfold re5 at ha
  unfold w_RE_followRowOut
  refine fs_gi_of ha rfl ?_
  by_cases h0 : lo = 0
  · rw [if_pos h0]
    refine fs_gi_of ha rfl ?_
    by_cases h1 : r ≤ w
    · rw [if_pos h1]
      refine fs_gi_of ha rfl ?_
      by_cases h2 : w = r
      · rw [if_pos h2]
        unfold w_RE_followRowOut_J30
        refine ⟨by decide, by decide, fs_pw_of ha (Nat.le_of_ble_eq_true rfl) (fs_gi_of fs_up_self rfl (fs_pw_of fs_up_self (Nat.le_of_ble_eq_true rfl) (K _ ?_ (gx.trans gx_up gx_up))))⟩
        unfold re5 reO
        rw [if_pos h0, if_pos h1, if_pos h2]
        exact fs_up_self
      · rw [if_neg h2]
        unfold w_RE_followRowOut_J30
        refine ⟨by decide, by decide, fs_pw_of ha (Nat.le_of_ble_eq_true rfl) (fs_gi_of fs_up_self rfl (fs_pw_of fs_up_self (Nat.le_of_ble_eq_true rfl) (K _ ?_ (gx.trans gx_up gx_up))))⟩
        unfold re5 reO
        rw [if_pos h0, if_pos h1, if_neg h2]
        exact fs_up_self
    · rw [if_neg h1]
      refine K h ?_ gx.rf
      unfold re5 reO
      rw [if_pos h0, if_neg h1]
      exact ha
  · rw [if_neg h0]
    refine K h ?_ gx.rf
    unfold re5 reO
    rw [if_neg h0]
    exact ha
theorem re_out_d {E : fs_E} {h : fs_Hp} {a i : Nat} {cf rf c w lo r : Int32} {Post : fs_Ps} (ha : h a = some (re5 cf rf c (w, lo) i)) (K : ∀ h', h' a = some (re5 cf rf c (reO r w lo) i) → gx a h h' → Post (.inl none) h') : w_RE_followRowOut_d E h a r Post := re_out (E := E) (self := fun _ _ _ _ _ => True) ha K
theorem ov_keep {E : fs_E} {h : fs_Hp} {a i : Nat} {cf rf c : Int32} {p : Int32 × Int32} {Post : fs_Ps} (ha : h a = some (re5 cf rf c p i)) (K : ∀ h', h' a = some (re5 cf rf c (reK p) i) → gx a h h' → Post (.inl none) h') : w_OV_keepAtLastRow E h a Post := by
  unfold re5 at ha
  unfold w_OV_keepAtLastRow
  refine fs_gi_of ha rfl ?_
  by_cases h0 : p.2 = 0
  · rw [if_pos h0]
    refine K h ?_ gx.rf
    unfold re5 reK
    rw [if_pos h0]
    exact ha
  · rw [if_neg h0]
    refine fs_pw_of ha (Nat.le_of_ble_eq_true rfl) (fs_pw_of fs_up_self (Nat.le_of_ble_eq_true rfl) (K _ ?_ (gx.trans gx_up gx_up)))
    unfold re5 reK
    rw [if_neg h0]
    exact fs_up_self
/-- the numbers of the codes -/
theorem code_in {cf rf c w lo x : Int32} {r : Nat} (hr : r < 10) (t : tr_code cf rf c w lo x) : tr_code cf rf c (reI (nI r) w lo).1 (reI (nI r) w lo).2 (shx (fI0 r) x) := by
  refine ⟨t.1, ?_⟩
  rcases t.2 with ⟨l1, l2⟩ | ⟨l1, C, W, A, B, m1, m2, m3, m4, m5, m6, m7, m8, m9⟩
  · refine Or.inl ⟨?_, by rw [l2, shx_lost]⟩
    unfold reI
    rw [if_neg (by rw [l1]; decide)]
    exact l1
  · unfold reI
    rw [if_pos l1, m8, m9]
    by_cases h1 : r ≤ W
    · rw [if_pos (nI_le h1 (by omega)), nI_1]
      by_cases h2 : W < 9
      · rw [if_pos (show nI (W + 1) < 10 from nI_lt (b := 10) (by omega) (by decide))]
        exact Or.inr ⟨rfl, C, W + 1, A, B, m1, by omega, m3, m4, m5, m6, m7, rfl, shx_some m1 m2 m3 m4 (by unfold fI0; rw [if_pos h1, if_pos h2])⟩
      · rw [if_neg (show ¬ nI (W + 1) < 10 from nI_nlt (b := 10) (by omega) (by omega))]
        exact Or.inl ⟨rfl, shx_none m1 m2 m3 m4 (by unfold fI0; rw [if_pos h1, if_neg h2])⟩
    · rw [if_neg (nI_ge (by omega) (by omega))]
      exact Or.inr ⟨l1, C, W, A, B, m1, m2, m3, m4, m5, m6, m7, rfl, shx_some m1 m2 m3 m4 (by unfold fI0; rw [if_neg h1])⟩
theorem code_keep {cf rf c w lo x : Int32} {r : Nat} (hr : r < 10) (t : tr_code cf rf c w lo x) (h0 : lo = 0) : tr_code cf rf c (reK (reI (nI r) w lo)).1 (reK (reI (nI r) w lo)).2 (shx (fI1 r) x) := by
  refine ⟨t.1, ?_⟩
  rcases t.2 with ⟨l1, l2⟩ | ⟨l1, C, W, A, B, m1, m2, m3, m4, m5, m6, m7, m8, m9⟩
  · rw [l1] at h0; exact absurd h0 (by decide)
  · unfold reI
    rw [if_pos l1, m8, m9]
    by_cases h1 : r ≤ W
    · rw [if_pos (nI_le h1 (by omega)), nI_1]
      by_cases h2 : W < 9
      · rw [if_pos (show nI (W + 1) < 10 from nI_lt (b := 10) (by omega) (by decide))]
        exact Or.inr ⟨rfl, C, W + 1, A, B, m1, by omega, m3, m4, m5, m6, m7, rfl, shx_some m1 m2 m3 m4 (by unfold fI1; rw [if_pos h1, if_pos h2])⟩
      · rw [if_neg (show ¬ nI (W + 1) < 10 from nI_nlt (b := 10) (by omega) (by omega))]
        have e : W = 9 := by omega
        exact Or.inr ⟨rfl, C, 9, A, B, m1, by omega, m3, m4, m5, m6, m7, rfl, shx_some m1 m2 m3 m4 (by unfold fI1; rw [if_pos h1, if_neg h2, e])⟩
    · rw [if_neg (nI_ge (by omega) (by omega))]
      unfold reK
      rw [if_pos (by exact l1)]
      exact Or.inr ⟨l1, C, W, A, B, m1, m2, m3, m4, m5, m6, m7, rfl, shx_some m1 m2 m3 m4 (by unfold fI1; rw [if_neg h1])⟩
theorem code_out {cf rf c w lo x : Int32} {r : Nat} (hr : r < 10) (t : tr_code cf rf c w lo x) : tr_code cf rf c (reO (nI r) w lo).1 (reO (nI r) w lo).2 (shx (fD0 r) x) := by
  refine ⟨t.1, ?_⟩
  rcases t.2 with ⟨l1, l2⟩ | ⟨l1, C, W, A, B, m1, m2, m3, m4, m5, m6, m7, m8, m9⟩
  · refine Or.inl ⟨?_, by rw [l2, shx_lost]⟩
    unfold reO
    rw [if_neg (by rw [l1]; decide)]
    exact l1
  · unfold reO
    rw [if_pos l1, m8, m9]
    by_cases h1 : r ≤ W
    · rw [if_pos (nI_le h1 (by omega))]
      by_cases h2 : W = r
      · rw [if_pos (show nI W = nI r by rw [h2])]
        exact Or.inl ⟨rfl, shx_none m1 m2 m3 m4 (by unfold fD0; rw [if_pos h1, if_pos h2])⟩
      · rw [if_neg (show ¬ nI W = nI r from fun z => h2 (by
          have h1 := nI_clamp (n := W) (by omega)
          rw [z, nI_clamp (by omega)] at h1
          omega)), show (nI W - 1 : Int32) = nI (W - 1) from nI_sub (b := 1) (by omega)]
        exact Or.inr ⟨rfl, C, W - 1, A, B, m1, by omega, m3, m4, m5, m6, m7, rfl, shx_some m1 m2 m3 m4 (by unfold fD0; rw [if_pos h1, if_neg h2])⟩
    · rw [if_neg (nI_ge (by omega) (by omega))]
      exact Or.inr ⟨l1, C, W, A, B, m1, m2, m3, m4, m5, m6, m7, rfl, shx_some m1 m2 m3 m4 (by unfold fD0; rw [if_neg h1])⟩
/-- the corners of a RANGE that loses a row -/
theorem code_row {cf rf c w x : Int32} {f : Nat → Option Nat} {W W' : Nat} (t : tr_code cf rf c w 0 x) (hW : rgrow x = W) (e : f W = some W') (hW' : W' < 10) : tr_code cf rf c (nI W') 0 (shx f x) := by
  refine ⟨t.1, ?_⟩
  rcases t.2 with ⟨l1, l2⟩ | ⟨l1, C, V, A, B, m1, m2, m3, m4, m5, m6, m7, m8, m9⟩
  · exact absurd l1 (by decide)
  · rw [m9] at hW
    rw [(rf_dec C m1 V m2 A m3 B m4).2.1] at hW
    subst hW
    rw [m9]
    exact Or.inr ⟨rfl, C, W', A, B, m1, hW', m3, m4, m5, m6, m7, rfl, shx_some m1 m2 m3 m4 e⟩
