/-! Pure: strings and numbers go to the string builder. -/
/-- digits, k of them -/
def dgl : Nat → Nat → List Nat
  | 0, _ => []
  | k + 1, w => dgl k (w / 10) ++ [48 + w % 10]
theorem dgl_len : ∀ k w, (dgl k w).length = k := by
  intro k
  induction k with
  | zero => intro w; rfl
  | succ k ih => intro w; rw [dgl, List.length_append, ih]; rfl
theorem dgl_lt : ∀ k w, ∀ c ∈ dgl k w, c < 128 ∧ 48 ≤ c ∧ c ≤ 57 := by
  intro k
  induction k with
  | zero => intro w c hc; cases hc
  | succ k ih =>
    intro w c hc
    rw [dgl] at hc
    rcases List.mem_append.mp hc with hc | hc
    · exact ih _ c hc
    · rw [List.mem_singleton.mp hc]; omega
/-- how many digits, of them there are -/
def dsf : Nat → Nat → Nat → Nat
  | 0, k, _ => k
  | f + 1, k, w => if w < 10 ^ k then k else dsf f (k + 1) w
def dsz (w : Nat) : Nat := dsf 9 1 w
theorem dsf_ok : ∀ f k w, w < 10 ^ (k + f) → w < 10 ^ (dsf f k w) ∧ k ≤ dsf f k w ∧ dsf f k w ≤ k + f ∧ (dsf f k w = k ∨ 10 ^ (dsf f k w - 1) ≤ w) := by
  intro f
  induction f with
  | zero => intro k w h; exact ⟨h, Nat.le_refl _, Nat.le_refl _, Or.inl rfl⟩
  | succ f ih =>
    intro k w h
    rw [dsf]
    split
    · next hk => exact ⟨hk, Nat.le_refl _, by omega, Or.inl rfl⟩
    · next hk =>
      obtain ⟨h1, h2, h3, h4⟩ := ih (k + 1) w (by rw [show k + 1 + f = k + (f + 1) by omega]; exact h)
      refine ⟨h1, by omega, by omega, Or.inr ?_⟩
      rcases h4 with e | e
      · rw [e, Nat.add_sub_cancel]; omega
      · exact e
theorem dsz_ok {w : Nat} (h : w < 1000000000) : w < 10 ^ dsz w ∧ 1 ≤ dsz w ∧ dsz w ≤ 10 ∧ (dsz w = 1 ∨ 10 ^ (dsz w - 1) ≤ w) := dsf_ok 9 1 w (by omega)
theorem ng_toInt {v : Nat} (h : v < 2 ^ 31) : (-nI v).toInt = -(v : Int) := by
  rw [Int32.toInt_neg, nI_toInt h]
  exact Int.bmod_eq_of_le (by omega) (by omega)
theorem ng_div {v : Nat} (h : v < 2 ^ 31) : (-nI v) / 100 = -nI (v / 100) := by
  apply Int32.toInt_inj.mp
  rw [Int32.toInt_div, ng_toInt h, ng_toInt (by omega), show (100 : Int32).toInt = 100 by decide, Int.neg_tdiv, Int.tdiv_eq_ediv_of_nonneg (by omega)]
  rw [Int.bmod_eq_of_le (by omega) (by omega)]
  omega
theorem ng_rem {v : Nat} (h : v < 2 ^ 31) : ((-nI v) / 100) * 100 - (-nI v) = nI (v % 100) := by
  rw [ng_div h]
  apply Int32.toInt_inj.mp
  rw [Int32.toInt_sub, Int32.toInt_mul, ng_toInt (by omega), ng_toInt h, nI_toInt (by omega), show (100 : Int32).toInt = 100 by decide]
  rw [Int.bmod_eq_of_le (n := -((v / 100 : Nat) : Int) * 100) (by omega) (by omega), Int.bmod_eq_of_le (by omega) (by omega)]
  omega
theorem ng_lt {v : Nat} (h : v < 2 ^ 31) : ((-100 : Int32) < -nI v) ↔ v < 100 := by
  rw [Int32.lt_iff_toInt_lt, ng_toInt h, show (-100 : Int32).toInt = -100 by decide]
  omega
theorem ng_le9 {v : Nat} (h : v < 2 ^ 31) : ((-9 : Int32) ≤ -nI v) ↔ v < 10 := by
  rw [Int32.le_iff_toInt_le, ng_toInt h, show (-9 : Int32).toInt = -9 by decide]
  omega
theorem ng_le {v p : Nat} (h : v < 2 ^ 31) (hp : p < 2 ^ 31) : (-nI v ≤ -nI p) ↔ p ≤ v := by
  rw [Int32.le_iff_toInt_le, ng_toInt h, ng_toInt hp]
  omega
theorem ng_ng (v : Nat) : -(-nI v) = nI v := Int32.neg_neg
theorem ng_10 (p : Nat) : 10 * (-nI p) = -nI (10 * p) := by
  rw [Int32.mul_neg, show (10 : Int32) = nI 10 from rfl, nI_mul]
theorem ob_chr : ∀ j, j < 8 → ∀ k, k < 4 → k < (ps_ob j).length → (fs_ob j).getD k 0 = nI ((ps_ob j).getD k 0) ∧ (ps_ob j).getD k 0 < 128 := by decide
theorem ob_len : ∀ j, j < 8 → (fs_ob j).length = (ps_ob j).length ∧ (ps_ob j).length ≤ 4 ∧ 3 ≤ (ps_ob j).length := by decide
theorem sb_str {E : fs_E} {h : fs_Hp} {sb v cap j mc ms : Nat} {t : List Nat} {Post : fs_Ps} (a : sbR E h sb v cap t) (hj : j < 8) (hm : t.length + (ps_ob j).length ≤ 400) (hc : 11 ≤ cap) (hmc : lev cap - lev (capN cap (t.length + (ps_ob j).length)) ≤ mc) (hms : 802 * (lev cap - lev (capN cap (t.length + (ps_ob j).length))) ≤ ms) (K : ∀ h' v', sbR E h' sb v' (capN cap (t.length + (ps_ob j).length)) (t ++ ps_ob j) → gS sb v h h' → (v' = v ∨ h v' = none) → Post (.inl (some (.ref sb))) h') : w_SB_append_59e mc ms E h sb j Post := by
  have a' := a
  obtain ⟨f, x2, h1, h2, h3, h4, h5, h6⟩ := a
  obtain ⟨o1, o2, o3⟩ := ob_len j hj
  refine ⟨mc, ms, Nat.le_refl _, Nat.le_refl _, fs_isc_of h1, hj, st_len hj (fs_ki_of (fs_gi_of h1 rfl ⟨mc, ms, Nat.le_refl _, Nat.le_refl _, fs_isc_of h1, ?_⟩))⟩
  rw [nI_add]
  refine sb_ens a' hm (by omega) hc hmc hms fun h' v' b1 b2 b3 => fs_kv_of ?_
  obtain ⟨f', x2', g1, g2, g3, g4, g5, g6⟩ := b1
  have hge := capN_ge cap (t.length + (ps_ob j).length)
  have hvs : v' ≠ sb := fun z => by rw [z, g1] at g2; cases g2
  refine fs_gi_of g1 rfl ⟨fs_isc_of g1, fs_isc_of g1, fs_gi_of g1 rfl ⟨hj, hj, fs_ki_of ?_⟩⟩
  rw [if_pos rfl]
  refine fs_kv_of (fs_gr_of g1 rfl (fs_gi_of g1 rfl ⟨hj, hj, hj, fs_ki_of ?_⟩))
  rw [if_pos rfl]
  refine ⟨hj, hj, hj, hj, _, ⟨_, f', g2, by decide, ?_, ?_, ?_, ?_, ?_, rfl⟩, fs_kv_of ?_⟩
  · rw [sh_l0]; exact nI_pos (by omega)
  · exact nI_pos (n := (fs_ob j).length) (by omega)
  · rw [show (Int32.ofNat (fs_ob j).length).toNatClampNeg = (fs_ob j).length from nI_clamp (n := (fs_ob j).length) (by omega), vp_nar0]; omega
  · rw [sh_l0, nI_clamp (by omega), show (Int32.ofNat (fs_ob j).length).toNatClampNeg = (fs_ob j).length from nI_clamp (n := (fs_ob j).length) (by omega)]; omega
  · rw [show (Int32.ofNat (fs_ob j).length).toNatClampNeg = (fs_ob j).length from nI_clamp (n := (fs_ob j).length) (by omega), vp_nar0]
    intro i hi
    obtain ⟨c1, c2⟩ := ob_chr j hj i (by omega) (by omega)
    show fits .byte (.int ((fs_ob j).getD (0 + i) 0)) = true
    rw [Nat.zero_add, c1]
    exact (fit_b _ c2).1
  · rw [sh_l0, nI_clamp (n := t.length) (by omega), show (Int32.ofNat (fs_ob j).length).toNatClampNeg = (fs_ob j).length from nI_clamp (n := (fs_ob j).length) (by omega), vp_nar0]
    refine fs_gi_of (fs_up_at (Ne.symm hvs) g1) rfl (fs_pw_of (fs_up_at (Ne.symm hvs) g1) (Nat.le_of_ble_eq_true rfl) (fs_kr_of ?_))
    rw [nI_add]
    refine K _ v' ⟨va_cpy (fun k => (fs_ob j).getD k 0) f' 0 t.length (fs_ob j).length, x2', ?_, fs_up_at hvs fs_up_self, by rw [List.length_append]; exact hge.2, g4, fun i hi => ?_, fun i d hi => ?_⟩ (fun q q1 q2 q3 => ?_) b3
    · rw [List.length_append]
      exact fs_up_self
    · unfold va_cpy
      split
      · obtain ⟨c1, c2⟩ := ob_chr j hj (0 + (i - t.length)) (by omega) (by omega)
        exact ⟨_, c2, c1⟩
      · exact g5 i hi
    · have hl := (List.getElem?_eq_some_iff.mp hi).1
      rw [List.length_append] at hl
      unfold va_cpy
      by_cases hlt : i < t.length
      · rw [if_neg (by omega)]
        rw [List.getElem?_append_left hlt] at hi
        exact g6 i d hi
      · rw [if_pos (by omega), Nat.zero_add]
        obtain ⟨c1, c2⟩ := ob_chr j hj (i - t.length) (by omega) (by omega)
        rw [List.getElem?_append_right (by omega)] at hi
        show (fs_ob j).getD (i - t.length) 0 = nI d
        rw [c1, List.getD_eq_getElem?_getD, hi]
        rfl
    · have qv : q ≠ v' := fun z => by
        rcases b3 with w | w
        · exact q2 (z.trans w)
        · exact q3 (z ▸ w)
      rw [fs_up_ne q1, fs_up_ne qv]
      exact b2 q q1 q2 q3
theorem p10_lt {k : Nat} (h : k ≤ 9) : 10 ^ k < 2 ^ 31 := Nat.lt_of_le_of_lt (Nat.pow_le_pow_right (by decide) h) (by decide)
theorem in_size {E : fs_E} {h : fs_Hp} {w : Nat} {K : fs_Hp → Prop} {Post : fs_Ps} (hw : w < 1000000000) : ∀ (f k : Nat), 1 ≤ k → k + f = 10 → dsf f k w = dsz w → Post (.inl (some (.int (nI (dsz w))))) h → w_IN_stringSize_L16 E K Post (f + 1) (-nI w) 0 (-nI (10 ^ k)) (nI k) h := by
  intro f
  induction f with
  | zero =>
    intro k h1 h2 e hP
    have hk : k = 10 := by omega
    exfalso
    have := (dsz_ok hw).2.2.2
    rw [← e, hk] at this
    have e2 : dsf 0 10 w = 10 := rfl
    rw [e2] at this
    rcases this with z | z
    · omega
    · have : (10 : Nat) ^ (10 - 1) = 1000000000 := by decide
      omega
  | succ f ih =>
    intro k h1 h2 e hP
    rw [w_IN_stringSize_L16]
    try dsimp only
    rw [if_neg (show ¬ (10 : Int32) ≤ nI k from nI_ge (b := 10) (by omega) (by decide))]
    rw [dsf] at e
    by_cases hlt : w < 10 ^ k
    · rw [if_pos hlt] at e
      rw [if_neg (fun z => by have := (ng_le (by omega) (p10_lt (by omega))).mp z; omega), Int32.add_zero, e]
      exact hP
    · rw [if_neg hlt] at e
      rw [if_pos ((ng_le (by omega) (p10_lt (by omega))).mpr (by omega)), ng_10, nI_1, show 10 * 10 ^ k = 10 ^ (k + 1) by rw [Nat.pow_succ, Nat.mul_comm]]
      exact ih (k + 1) (by omega) (by omega) e hP
theorem dt_ok : ∀ r, r < 100 → fs_dt 10 r = nI (48 + r % 10) ∧ fs_dt 9 r = nI (48 + r / 10) ∧ vp_nar .byte (nI (48 + r % 10)) = nI (48 + r % 10) ∧ vp_nar .byte (nI (48 + r / 10)) = nI (48 + r / 10) := by decide
/-- digits are written from behind -/
def wrt (f : Nat → Int32) (p : Nat) (S : List Nat) : Prop := ∀ i c, S[i]? = some c → f (p + i) = nI c
theorem wrt_one {f : Nat → Int32} {p c : Nat} {S : List Nat} (h : wrt f (p + 1) S) : wrt (upd f p (nI c)) p (c :: S) := by
  intro i d hi
  rw [upd_at]
  cases i with
  | zero => cases hi; rw [if_pos (by omega)]
  | succ i =>
    rw [if_neg (by omega)]
    have := h i d hi
    rw [show p + 1 + i = p + (i + 1) by omega] at this
    exact this
theorem gc_L22 {E : fs_E} {v cap n k : Nat} {K : Int32 → Int32 → fs_Hp → Prop} {Post : fs_Ps} {z6 : Int32} {w0 : Nat} (hnk : n + k ≤ cap) (hcap : cap < 2000) : ∀ (fu rem w : Nat) (S : List Nat) (h : fs_Hp) (f : Nat → Int32), rem ≤ 2 * fu → w < 2 ^ 31 → w < 10 ^ rem → 1 ≤ rem → (rem = 1 ∨ 10 ^ (rem - 1) ≤ w) → rem ≤ k → h v = some (.inl (E.1.2 5, cap, .inl f)) → dgl k w0 = dgl rem w ++ S → wrt f (n + rem) S → (∀ h' rem' w' S' f', gx v h h' → w' < 100 → (rem' = 1 ∧ w' < 10 ∨ rem' = 2 ∧ 10 ≤ w') → rem' ≤ k → h' v = some (.inl (E.1.2 5, cap, .inl f')) → dgl k w0 = dgl rem' w' ++ S' → wrt f' (n + rem') S' → (∀ i, i < n → f' i = f i) → (∀ i, (∃ c, c < 128 ∧ f i = nI c) → ∃ c, c < 128 ∧ f' i = nI c) → K (-nI w') (nI (n + rem')) h') → w_IN_getChars_L22 E K Post (fu + 1) (-nI w) v (nI (n + rem)) z6 h := by
  intro fu
  induction fu with
  | zero => intro rem w S h f h1 _ _ h2; omega
  | succ fu ih =>
    intro rem w S h f h1 hw31 h2 h3 h4 h5 h6 h7 h8 hK
    rw [w_IN_getChars_L22]
    try dsimp only
    by_cases hlt : w < 100
    · rw [if_pos ((ng_lt hw31).mpr hlt)]
      refine hK h rem w S f gx.rf hlt ?_ h5 h6 h7 h8 (fun _ _ => rfl) (fun _ x => x)
      by_cases h10 : w < 10
      · refine Or.inl ⟨?_, h10⟩
        rcases h4 with e | e
        · exact e
        · by_cases hr : rem = 1
          · exact hr
          · have : 10 ^ 1 ≤ 10 ^ (rem - 1) := Nat.pow_le_pow_right (by decide) (by omega)
            omega
      · refine Or.inr ⟨?_, by omega⟩
        have hr1 : rem ≠ 1 := fun z => by rw [z] at h2; omega
        rcases h4 with e | e
        · exact absurd e hr1
        · by_cases hr : rem = 2
          · exact hr
          · have : 10 ^ 2 ≤ 10 ^ (rem - 1) := Nat.pow_le_pow_right (by decide) (by omega)
            omega
    · rw [if_neg (fun z => hlt ((ng_lt hw31).mp z)), ng_rem hw31, ng_div hw31]
      have hrem : 3 ≤ rem := by
        have h1 : rem ≠ 1 := fun z => by rw [z] at h2; omega
        have h2' : rem ≠ 2 := fun z => by rw [z] at h2; omega
        omega
      obtain ⟨d1, d2, d3, d4⟩ := dt_ok (w % 100) (by omega)
      have hin : vp_in (nI (w % 100)) 100 := nI_in (by omega) (by omega)
      obtain ⟨r2, e2⟩ : ∃ r2, rem = r2 + 2 := ⟨rem - 2, by omega⟩
      subst e2
      refine ⟨by decide, hin, ?_⟩
      rw [nI_clamp (n := w % 100) (by omega), d1, d2, d3, d4, show n + (r2 + 2) = (n + r2 + 1) + 1 by omega, nI_s1, nI_s1]
      refine fs_si_of h6 (nI_in (by omega) (by omega)) ⟨hin, fs_si_of fs_up_self (nI_in (by omega) (by omega)) ?_⟩
      rw [nI_clamp (by omega), nI_clamp (by omega)]
      refine ih r2 (w / 100) ((48 + w % 100 / 10) :: (48 + w % 100 % 10) :: S) _ (upd (upd f (n + r2 + 1) (nI (48 + w % 100 % 10))) (n + r2) (nI (48 + w % 100 / 10))) (by omega) (by omega) ?_ (by omega) ?_ (by omega) fs_up_self ?_ ?_ ?_
      · have : 10 ^ (r2 + 2) = 10 ^ r2 * 100 := by rw [Nat.pow_add]
        omega
      · by_cases hr : r2 = 1
        · exact Or.inl hr
        · refine Or.inr ?_
          rcases h4 with e | e
          · omega
          · have : 10 ^ (r2 + 2 - 1) = 10 ^ (r2 - 1) * 100 := by
              rw [show r2 + 2 - 1 = r2 - 1 + 2 by omega, Nat.pow_add]
            omega
      · rw [h7, dgl, dgl, List.append_assoc, List.append_assoc, Nat.div_div_eq_div_mul, show w / 10 % 10 = w % 100 / 10 by omega, show w % 10 = w % 100 % 10 by omega]
        rfl
      · rw [show n + (r2 + 2) = n + r2 + 1 + 1 by omega] at h8
        exact wrt_one (wrt_one h8)
      · intro h' rem' w' S' f' x1 x2 x3 x4 x5 x6 x7 x8 x9
        refine hK h' rem' w' S' f' ((gx.trans gx_up gx_up).trans x1) x2 x3 x4 x5 x6 x7 (fun i hi => ?_) fun i hi => x9 i ?_
        · rw [x8 i hi, upd_at, upd_at, if_neg (by omega), if_neg (by omega)]
        · rw [upd_at, upd_at]
          split
          · exact ⟨_, by omega, rfl⟩
          · split
            · exact ⟨_, by omega, rfl⟩
            · exact hi
theorem in_chars {E : fs_E} {h : fs_Hp} {v cap n w : Nat} {f : Nat → Int32} {Post : fs_Ps} (hw : w < 1000000000) (hnk : n + dsz w ≤ cap) (hcap : cap < 2000) (hv : h v = some (.inl (E.1.2 5, cap, .inl f))) (K : ∀ h' f' x, gx v h h' → h' v = some (.inl (E.1.2 5, cap, .inl f')) → wrt f' n (dgl (dsz w) w) → (∀ i, i < n → f' i = f i) → (∀ i, (∃ c, c < 128 ∧ f i = nI c) → ∃ c, c < 128 ∧ f' i = nI c) → Post (.inl (some (.int x))) h') : w_IN_getChars E h (nI w) (nI (n + dsz w)) v Post := by
  obtain ⟨s1, s2, s3, s4⟩ := dsz_ok hw
  unfold w_IN_getChars
  rw [if_pos (nI_pos' (by omega))]
  unfold w_IN_getChars_J12
  rw [if_pos rfl]
  refine ⟨10 + 1, gc_L22 (w0 := w) hnk hcap 10 (dsz w) w [] h f (by omega) (by omega) s1 s2 s4 (Nat.le_refl _) hv (List.append_nil _).symm (fun i c hi => by cases hi) ?_⟩
  intro h' rem w' S f' x1 x2 x3 x4 x5 x6 x7 x8 x9
  obtain ⟨d1, d2, d3, d4⟩ := dt_ok w' x2
  have hin : vp_in (-(-nI w')) 100 := by rw [ng_ng]; exact nI_in x2 (by omega)
  refine ⟨hin, ?_⟩
  rw [ng_ng, nI_clamp (by omega), d1, d2, d3, d4]
  rcases x3 with ⟨e1, e2⟩ | ⟨e1, e2⟩
  · subst e1
    rw [nI_s1]
    refine fs_si_of x5 (nI_in (by omega) (by omega)) ?_
    rw [if_pos ((ng_le9 (by omega)).mpr e2), nI_clamp (by omega)]
    unfold w_IN_getChars_J104
    rw [if_pos rfl]
    refine K _ (upd f' n (nI (48 + w' % 10))) _ (x1.trans gx_up) fs_up_self ?_ (fun i hi => by rw [upd_at, if_neg (by omega)]; exact x8 i hi) fun i hi => ?_
    · rw [x6, dgl, dgl]
      exact wrt_one x7
    · rw [upd_at]
      split
      · exact ⟨_, by omega, rfl⟩
      · exact x9 i hi
  · subst e1
    rw [show n + 2 = (n + 1) + 1 by omega, nI_s1]
    refine fs_si_of x5 (nI_in (by omega) (by omega)) ?_
    rw [if_neg (fun z => by have := (ng_le9 (by omega)).mp z; omega), nI_clamp (by omega)]
    refine ⟨nI_in x2 (by omega), ?_⟩
    rw [nI_s1]
    refine fs_si_of fs_up_self (nI_in (by omega) (by omega)) ?_
    rw [nI_clamp (by omega)]
    unfold w_IN_getChars_J104
    rw [if_pos rfl]
    refine K _ (upd (upd f' (n + 1) (nI (48 + w' % 10))) n (nI (48 + w' / 10))) _ ((x1.trans gx_up).trans gx_up) fs_up_self ?_ (fun i hi => by rw [upd_at, upd_at, if_neg (by omega), if_neg (by omega)]; exact x8 i hi) fun i hi => ?_
    · rw [x6, dgl, dgl, dgl, List.nil_append, show w' / 10 % 10 = w' / 10 by omega]
      exact wrt_one (wrt_one x7)
    · rw [upd_at, upd_at]
      split
      · exact ⟨_, by omega, rfl⟩
      · split
        · exact ⟨_, by omega, rfl⟩
        · exact x9 i hi
theorem sb_int {E : fs_E} {h : fs_Hp} {sb v cap w mc ms : Nat} {t : List Nat} {Post : fs_Ps} (a : sbR E h sb v cap t) (hw : w < 1000000000) (hm : t.length + dsz w ≤ 400) (hc : 11 ≤ cap) (hmc : lev cap - lev (capN cap (t.length + dsz w)) ≤ mc) (hms : 802 * (lev cap - lev (capN cap (t.length + dsz w))) ≤ ms) (K : ∀ h' v', sbR E h' sb v' (capN cap (t.length + dsz w)) (t ++ dgl (dsz w) w) → gS sb v h h' → (v' = v ∨ h v' = none) → Post (.inl (some (.ref sb))) h') : w_SB_append_7d3 mc ms E h sb (nI w) Post := by
  have a' := a
  obtain ⟨f, x2, h1, h2, h3, h4, h5, h6⟩ := a
  obtain ⟨s1, s2, s3, s4⟩ := dsz_ok hw
  refine ⟨mc, ms, Nat.le_refl _, Nat.le_refl _, fs_isc_of h1, fs_gi_of h1 rfl ?_⟩
  unfold w_IN_stringSize
  rw [if_neg (nI_pos (by omega))]
  refine ⟨9 + 1, in_size hw 9 1 (by omega) (by omega) rfl (fs_ki_of ⟨mc, ms, Nat.le_refl _, Nat.le_refl _, fs_isc_of h1, ?_⟩)⟩
  rw [nI_add]
  refine sb_ens a' hm (by omega) hc hmc hms fun h' v' b1 b2 b3 => fs_kv_of ?_
  obtain ⟨f', x2', g1, g2, g3, g4, g5, g6⟩ := b1
  have hge := capN_ge cap (t.length + dsz w)
  have hvs : v' ≠ sb := fun z => by rw [z, g1] at g2; cases g2
  refine ⟨fs_isc_of g1, fs_gi_of g1 rfl ?_⟩
  rw [if_pos rfl]
  refine fs_ki_of ?_
  rw [if_neg (show ¬ (1 : Int32) = 0 by decide)]
  refine fs_gr_of g1 rfl (in_chars hw hge.2 g4 g2 fun h2' f2 x e1 e2 e3 e4 e5 => fs_ki_of ?_)
  refine fs_pw_of ((e1 sb (Ne.symm hvs)).trans g1) (Nat.le_of_ble_eq_true rfl) (fs_kr_of ?_)
  refine K _ v' ⟨f2, x2', ?_, fs_up_at hvs e2, by rw [List.length_append, dgl_len]; exact hge.2, g4, fun i hi => e5 i (g5 i hi), fun i d hi => ?_⟩ (fun q q1 q2 q3 => ?_) b3
  · rw [List.length_append, dgl_len]
    exact fs_up_self
  · by_cases hlt : i < t.length
    · rw [List.getElem?_append_left hlt] at hi
      rw [e4 i hlt]
      exact g6 i d hi
    · rw [List.getElem?_append_right (by omega)] at hi
      have := e3 (i - t.length) d hi
      rw [show t.length + (i - t.length) = i by omega] at this
      exact this
  · have qv : q ≠ v' := fun z => by
      rcases b3 with w | w
      · exact q2 (z.trans w)
      · exact q3 (z ▸ w)
    rw [fs_up_ne q1, e1 q qv]
    exact b2 q q1 q2 q3
