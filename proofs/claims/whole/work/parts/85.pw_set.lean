/-! Pure: sets of cells, the class's and the reference's. -/
def hs (lo hi : Int64) (k : Nat) : Bool := if k < 64 then bt lo k else bt hi (k - 64)
def hz (hi : Int64) : Prop := ∀ i, 16 ≤ i → bt hi i = false
/-- the class's set at s -/
def cset (h : fs_Hp) (s : Nat) (p : Nat → Bool) : Prop := ∃ lo hi : Int64, h s = some (.inr (3, [.long lo, .long hi])) ∧ hz hi ∧ ∀ k, k < 80 → p k = hs lo hi k
theorem cset.same {h : fs_Hp} {s : Nat} {p p' : Nat → Bool} (a : cset h s p) (e : ∀ k, k < 80 → p' k = p k) : cset h s p' := by
  obtain ⟨lo, hi, h1, h2, h3⟩ := a
  exact ⟨lo, hi, h1, h2, fun k hk => (e k hk).trans (h3 k hk)⟩
theorem cset.kept {h h' : fs_Hp} {s : Nat} {p : Nat → Bool} (a : cset h s p) (e : h' s = h s) : cset h' s p := by
  obtain ⟨lo, hi, h1, h2, h3⟩ := a
  exact ⟨lo, hi, e.trans h1, h2, h3⟩
theorem cset.isc {h : fs_Hp} {s : Nat} {p : Nat → Bool} (a : cset h s p) : fs_isc h s 3 := by
  obtain ⟨lo, hi, h1, h2, h3⟩ := a
  exact fs_isc_of h1
def bi (b : Bool) : Int32 := if b then 1 else 0
theorem bi_0 {b : Bool} (h : b = false) : bi b = 0 := by rw [h]; rfl
theorem bi_1 {b : Bool} (h : b = true) : bi b = 1 := by rw [h]; rfl
theorem ks_has24 {E : fs_E} {h : fs_Hp} {w : Int64} {b : Bool} {Post : fs_Ps} (hb : bt w 0 = b) (K : Post (.inl (some (.int (bi b)))) h) : w_CS_has_J24 E Post w h := by
  unfold w_CS_has_J24
  cases b with
  | false => rw [if_pos ((bt_cmp0 w).mpr hb)]; exact K
  | true => rw [if_neg (fun z => by rw [(bt_cmp0 w).mp z] at hb; cases hb)]; exact K
theorem ks_has {E : fs_E} {h : fs_Hp} {s k : Nat} {p : Nat → Bool} {Post : fs_Ps} (a : cset h s p) (hk : k < 80) (K : Post (.inl (some (.int (bi (p k))))) h) : w_CS_has E h s (nI k) Post := by
  obtain ⟨lo, hi, h1, h2, h3⟩ := a
  unfold w_CS_has
  by_cases h64 : k < 64
  · rw [if_neg (show ¬ (64 : Int32) ≤ nI k from nI_ge (b := 64) h64 (by decide))]
    refine fs_gl_of h1 rfl (ks_has24 ?_ K)
    rw [bt_shr h64, h3 k hk, hs, if_pos h64]
  · rw [if_pos (show (64 : Int32) ≤ nI k from nI_le (a := 64) (by omega) (by omega))]
    refine fs_gl_of h1 rfl (ks_has24 ?_ K)
    rw [show (nI k - 64 : Int32) = nI (k - 64) from nI_sub (b := 64) (by omega), bt_shr (by omega), h3 k hk, hs, if_neg h64]
theorem ks_hasb {E : fs_E} {h : fs_Hp} {s k : Nat} {p : Nat → Bool} {b : Bool} {Post : fs_Ps} (a : cset h s p) (hk : k < 80) (hb : p k = b) (K : Post (.inl (some (.int (bi b)))) h) : w_CS_has E h s (nI k) Post := ks_has a hk (by rw [hb]; exact K)
theorem ks_add {E : fs_E} {h : fs_Hp} {s k : Nat} {p : Nat → Bool} {Post : fs_Ps} (a : cset h s p) (hk : k < 80) (K : ∀ h', cset h' s (fun j => p j || decide (j = k)) → (∀ q, q ≠ s → h' q = h q) → Post (.inl none) h') : w_CS_add E h s (nI k) Post := by
  obtain ⟨lo, hi, h1, h2, h3⟩ := a
  unfold w_CS_add
  by_cases h64 : k < 64
  · rw [if_neg (show ¬ (64 : Int32) ≤ nI k from nI_ge (b := 64) h64 (by decide))]
    refine fs_gl_of h1 rfl (fs_pw_of h1 (Nat.le_of_ble_eq_true rfl) (K _ ⟨_, _, fs_up_self, h2, fun j hj => ?_⟩ fun q hq => fs_up_ne hq))
    show (p j || decide (j = k)) = _
    rw [h3 j hj]
    unfold hs
    by_cases hj64 : j < 64
    · rw [if_pos hj64, if_pos hj64, bt_or, bt_one h64]
    · rw [if_neg hj64, if_neg hj64, show decide (j = k) = false by rw [decide_eq_false_iff_not]; omega, Bool.or_false]
  · rw [if_pos (show (64 : Int32) ≤ nI k from nI_le (a := 64) (by omega) (by omega))]
    refine fs_gl_of h1 rfl (fs_pw_of h1 (Nat.le_of_ble_eq_true rfl) (K _ ⟨_, _, fs_up_self, ?_, fun j hj => ?_⟩ fun q hq => fs_up_ne hq))
    · intro i hi16
      rw [show (nI k - 64 : Int32) = nI (k - 64) from nI_sub (b := 64) (by omega), bt_or, bt_one (by omega), h2 i hi16, show decide (i = k - 64) = false by rw [decide_eq_false_iff_not]; omega]
      rfl
    · show (p j || decide (j = k)) = _
      rw [h3 j hj]
      unfold hs
      by_cases hj64 : j < 64
      · rw [if_pos hj64, if_pos hj64, show decide (j = k) = false by rw [decide_eq_false_iff_not]; omega, Bool.or_false]
      · rw [if_neg hj64, if_neg hj64, show (nI k - 64 : Int32) = nI (k - 64) from nI_sub (b := 64) (by omega), bt_or, bt_one (by omega), show decide (j - 64 = k - 64) = decide (j = k) by rw [decide_eq_decide]; omega]
theorem ks_addAll {E : fs_E} {h : fs_Hp} {s t : Nat} {p q : Nat → Bool} {Post : fs_Ps} (a : cset h s p) (b : cset h t q) (K : ∀ h', cset h' s (fun j => p j || q j) → (∀ x, x ≠ s → h' x = h x) → Post (.inl none) h') : w_CS_addAll E h s t Post := by
  obtain ⟨lo, hi, h1, h2, h3⟩ := a
  obtain ⟨lo', hi', g1, g2, g3⟩ := b
  unfold w_CS_addAll
  refine fs_gl_of h1 rfl (fs_gl_of g1 rfl (fs_pw_of h1 (Nat.le_of_ble_eq_true rfl) (fs_gl_of fs_up_self rfl ?_)))
  have key : fs_gl (fs_up h s (.inr (3, [.long (lo ||| lo'), .long hi]))) t 3 1 (fun x => fs_pw (fs_up h s (.inr (3, [.long (lo ||| lo'), .long hi]))) s 3 1 (.long (hi ||| x)) fun h' => Post (.inl none) h') := by
    have fin : fs_pw (fs_up h s (.inr (3, [.long (lo ||| lo'), .long hi]))) s 3 1 (.long (hi ||| hi')) fun h' => Post (.inl none) h' := by
      refine fs_pw_of fs_up_self (Nat.le_of_ble_eq_true rfl) (K _ ⟨_, _, fs_up_self, ?_, fun j hj => ?_⟩ fun x hx => (fs_up_ne hx).trans (fs_up_ne hx))
      · intro i hi16
        rw [bt_or, h2 i hi16, g2 i hi16]
        rfl
      · show (p j || q j) = _
        rw [h3 j hj, g3 j hj]
        unfold hs
        by_cases hj64 : j < 64
        · rw [if_pos hj64, if_pos hj64, if_pos hj64, bt_or]
        · rw [if_neg hj64, if_neg hj64, if_neg hj64, bt_or]
    by_cases hst : t = s
    · subst hst
      rw [h1] at g1
      cases g1
      exact fs_gl_of fs_up_self rfl fin
    · exact fs_gl_of ((fs_up_ne hst).trans g1) rfl fin
  exact key
theorem ks_clear {E : fs_E} {h : fs_Hp} {s : Nat} {p : Nat → Bool} {Post : fs_Ps} (a : cset h s p) (K : ∀ h', cset h' s (fun _ => false) → (∀ x, x ≠ s → h' x = h x) → Post (.inl none) h') : w_CS_clear E h s Post := by
  obtain ⟨lo, hi, h1, h2, h3⟩ := a
  unfold w_CS_clear
  refine fs_pw_of h1 (Nat.le_of_ble_eq_true rfl) (fs_pw_of fs_up_self (Nat.le_of_ble_eq_true rfl) (K _ ⟨_, _, fs_up_self, fun i _ => bt_0 i, fun j hj => ?_⟩ fun x hx => (fs_up_ne hx).trans (fs_up_ne hx)))
  unfold hs
  rw [bt_0, bt_0]
  split <;> rfl
/-- how many cells -/
def cnt (p : Nat → Bool) : Nat := (List.range 80).countP p
theorem cnt_le (p : Nat → Bool) : cnt p ≤ 80 := by
  have := List.countP_le_length (p := p) (l := List.range 80)
  rw [List.length_range] at this
  exact this
theorem hs_cnt {lo hi : Int64} {p : Nat → Bool} (h2 : hz hi) (h3 : ∀ k, k < 80 → p k = hs lo hi k) : pcn lo + pcn hi = cnt p := by
  have e1 : List.range 80 = List.range 64 ++ (List.range 16).map (64 + ·) := by decide
  have e2 : List.range 64 = List.range 16 ++ (List.range 48).map (16 + ·) := by decide
  have c1 : (List.range 64).countP p = pcn lo := by
    unfold pcn
    refine List.countP_congr fun x hx => ?_
    have hx' := List.mem_range.mp hx
    rw [h3 x (by omega), hs, if_pos hx']
  have c2 : ((List.range 16).map (64 + ·)).countP p = pcn hi := by
    unfold pcn
    rw [e2, List.countP_append, List.countP_map, List.countP_map]
    have z : (List.range 48).countP ((fun i => bt hi i) ∘ (16 + ·)) = 0 := by
      rw [List.countP_eq_zero]
      intro a _
      show ¬ bt hi (16 + a) = true
      rw [h2 _ (by omega)]
      decide
    rw [z, Nat.add_zero]
    refine List.countP_congr fun x hx => ?_
    have hx' := List.mem_range.mp hx
    show p (64 + x) = true ↔ _
    rw [h3 (64 + x) (by omega), hs, if_neg (by omega), Nat.add_sub_cancel_left]
  unfold cnt
  rw [e1, List.countP_append, c1, c2]
theorem lo_bitCount {E : fs_E} {h : fs_Hp} {x : Int64} {Post : fs_Ps} (K : Post (.inl (some (.int (nI (pcn x))))) h) : w_LO_bitCount E h x Post := by
  rw [← bitcount] at K
  exact K
theorem ks_size {E : fs_E} {h : fs_Hp} {s : Nat} {p : Nat → Bool} {Post : fs_Ps} (a : cset h s p) (K : Post (.inl (some (.int (nI (cnt p))))) h) : w_CS_size E h s Post := by
  obtain ⟨lo, hi, h1, h2, h3⟩ := a
  unfold w_CS_size
  refine fs_gl_of h1 rfl (lo_bitCount (fs_ki_of (fs_gl_of h1 rfl (lo_bitCount (fs_ki_of ?_)))))
  rw [nI_add, hs_cnt h2 h3]
  exact K
/-- the reference's set -/
def ms (lo hi : Int64) (k : Nat) : Bool := if k < 40 then bt lo k else bt hi (k - 40)
theorem mo_in {lo hi : Int64} {k : Nat} (hk : k < 80) : p_MO_in lo hi (nI k) = bi (ms lo hi k) := by
  have key : ∀ (w : Int64) (b : Bool), bt w 0 = b → (if (lg_cmp (w &&& (1 : Int64)) 1) = 0 then (1 : Int32) else 0) = bi b := by
    intro w b hb
    cases b with
    | false => rw [if_neg (fun z => by rw [(bt_cmp1 w).mp z] at hb; cases hb)]; rfl
    | true => rw [if_pos ((bt_cmp1 w).mpr hb)]; rfl
  unfold p_MO_in ms
  by_cases h40 : k < 40
  · rw [if_neg (show ¬ (40 : Int32) ≤ nI k from nI_ge (b := 40) h40 (by decide)), if_pos h40]
    exact key _ _ (bt_sar (by omega) lo)
  · rw [if_pos (show (40 : Int32) ≤ nI k from nI_le (a := 40) (by omega) (by omega)), if_neg h40, show (nI k - 40 : Int32) = nI (k - 40) from nI_sub (b := 40) (by omega)]
    exact key _ _ (bt_sar (by omega) hi)
theorem ms_or (a b c d : Int64) (k : Nat) : ms (a ||| c) (b ||| d) k = (ms a b k || ms c d k) := by
  unfold ms
  split
  · rw [bt_or]
  · rw [bt_or]
theorem ms_0 (k : Nat) : ms 0 0 k = false := by
  unfold ms
  rw [bt_0, bt_0]
  split <;> rfl
/-- nothing changes but two sets' longs at z -/
def lf (j1 j2 z : Nat) (M M' : mo_S) : Prop := M'.1 = M.1 ∧ M'.2.1 = M.2.1 ∧ M'.2.2.2 = M.2.2.2 ∧ ∀ j q, ¬ ((j = j1 ∨ j = j2) ∧ q = z) → M'.2.2.1 j q = M.2.2.1 j q
theorem lf.rf (j1 j2 z : Nat) (M : mo_S) : lf j1 j2 z M M := ⟨rfl, rfl, rfl, fun _ _ _ => rfl⟩
theorem lf.trans {j1 j2 z : Nat} {M M1 M2 : mo_S} (a : lf j1 j2 z M M1) (b : lf j1 j2 z M1 M2) : lf j1 j2 z M M2 := ⟨b.1.trans a.1, b.2.1.trans a.2.1, b.2.2.1.trans a.2.2.1, fun j q h => (b.2.2.2 j q h).trans (a.2.2.2 j q h)⟩
def m13 (M : mo_S) (z k : Nat) : Bool := ms (M.2.2.1 13 z) (M.2.2.1 14 z) k
def m15 (M : mo_S) (z k : Nat) : Bool := ms (M.2.2.1 15 z) (M.2.2.1 16 z) k
theorem mo_refer {M : mo_S} {z k : Nat} (hz : z < 80) (hk : k < 80) : lf 13 14 z M (p_MO_refer M (nI z) (nI k)) ∧ ∀ i, i < 80 → m13 (p_MO_refer M (nI z) (nI k)) z i = (m13 M z i || decide (i = k)) := by
  unfold p_MO_refer
  rw [nI_clamp (n := z) (by omega)]
  by_cases h40 : k < 40
  · rw [if_neg (show ¬ (40 : Int32) ≤ nI k from nI_ge (b := 40) h40 (by decide))]
    refine ⟨⟨rfl, rfl, rfl, fun j q h => ?_⟩, fun i hi => ?_⟩
    · rw [mo_l_at, if_neg (by omega)]
    · unfold m13
      rw [mo_l_at, mo_l_at, if_pos ⟨rfl, rfl⟩, if_neg (by omega)]
      unfold ms
      by_cases hi40 : i < 40
      · rw [if_pos hi40, if_pos hi40, bt_or, bt_one (by omega)]
      · rw [if_neg hi40, if_neg hi40, show decide (i = k) = false by rw [decide_eq_false_iff_not]; omega, Bool.or_false]
  · rw [if_pos (show (40 : Int32) ≤ nI k from nI_le (a := 40) (by omega) (by omega)), show (nI k - 40 : Int32) = nI (k - 40) from nI_sub (b := 40) (by omega)]
    refine ⟨⟨rfl, rfl, rfl, fun j q h => ?_⟩, fun i hi => ?_⟩
    · rw [mo_l_at, if_neg (by omega)]
    · unfold m13
      rw [mo_l_at, mo_l_at, if_neg (by omega), if_pos ⟨rfl, rfl⟩]
      unfold ms
      by_cases hi40 : i < 40
      · rw [if_pos hi40, if_pos hi40, show decide (i = k) = false by rw [decide_eq_false_iff_not]; omega, Bool.or_false]
      · rw [if_neg hi40, if_neg hi40, bt_or, bt_one (by omega), show decide (i - 40 = k - 40) = decide (i = k) by rw [decide_eq_decide]; omega]
