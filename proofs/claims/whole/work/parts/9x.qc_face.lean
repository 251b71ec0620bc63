/-! Pure: the class's face: type, errorAt, put, erase, insert, delete. -/
theorem chr128 : ∀ c, c < 128 → (Int32.toUInt32 (nI c) % 65536).toInt32 = nI c ∧ vp_nar .char (nI c) = nI c := by decide
section
variable {E : fs_E} {U : Nat → Prop} {h h' : fs_Hp} {x ln ch ce fil fo va re ga od sb v cap n : Nat} {A : Shh} {f : Nat → Int32} {t : List Nat} {er x2 x3 st : Int32} {bf : Nat → Int32} {vf : Nat → UInt64} {ff rf : Nat → Option Nat} {oo : Nat → Int32} {Fs : Nat → List Nat} {mc ms : Nat} {Post : fs_Ps}
theorem sh_cell {c r : Int32} (hm : 1 ≤ mc) (hs : 6 ≤ ms) (K1 : p_MO_out c r = 1 → Post (.inr "java/lang/IndexOutOfBoundsException") h) (K0 : ∀ C W : Nat, C < 8 → W < 10 → c = nI C → r = nI W → Post (.inl (some (.int (nI (W * 8 + C))))) h) : w_SH_cellAt mc ms E h c r Post := by
  unfold w_SH_cellAt
  refine is_in (fs_ki_of ?_)
  rcases out_or c r with e | e
  · rw [e, if_pos rfl, if_neg (show ¬ (1 : Int32) = 0 by decide)]
    obtain ⟨C, W, hC, hW, eC, eW⟩ := out_dec e
    have := K0 C W hC hW eC eW
    rw [eC, eW, (cell80 hC hW).1]
    exact this
  · rw [e, if_neg (show ¬ (1 : Int32) = 0 by decide), if_pos rfl]
    exact ⟨hm, hs, K1 e⟩
theorem sh_fcell (c : CIx E U h x A f n er ln ch ce fil fo va re ga od sb v cap t x2 x3 st bf vf ff rf oo Fs) {y1 y2 : Int32} (hm : 2 ≤ mc) (hs : 12 ≤ ms) (K1 : p_MO_out y1 y2 = 1 → Post (.inr "java/lang/IndexOutOfBoundsException") h) (K2 : ∀ C W : Nat, C < 8 → W < 10 → y1 = nI C → y2 = nI W → A (W * 8 + C) = none → Post (.inr "java/util/NoSuchElementException") h) (K0 : ∀ C W : Nat, C < 8 → W < 10 → y1 = nI C → y2 = nI W → A (W * 8 + C) ≠ none → Post (.inl (some (.int (nI (W * 8 + C))))) h) : w_SH_filledCellAt mc ms E h x y1 y2 Post := by
  refine ⟨1, 6, by omega, by omega, sh_cell (Nat.le_refl 1) (Nat.le_refl 6) K1 fun C W hC hW e1 e2 => fs_ki_of ?_⟩
  obtain ⟨i1, i2, i3⟩ := cell80 hC hW
  refine fs_gr_of c.1.1 rfl (fs_gr_of c.2.1.1.1.1 rfl (fs_ai_of c.2.1.1.1.2.1 i2 ?_))
  rw [i3]
  have hb := c.2.1.2.2.2.2.1.b (show W * 8 + C < 80 by omega)
  match e : A (W * 8 + C) with
  | none =>
    rw [e] at hb
    rw [show bf (W * 8 + C) = 0 from hb, if_pos rfl]
    exact ⟨by omega, by omega, K2 C W hC hW e1 e2 e⟩
  | some y =>
    rw [e] at hb
    rw [show bf (W * 8 + C) = 1 from hb, if_neg (show ¬ (1 : Int32) = 0 by decide)]
    exact K0 C W hC hW e1 e2 (by rw [e]; exact fun z => by cases z)
theorem sh_type (c : CI E U h x A f n er) {y : Int32} (hm : 1 ≤ mc) (hs : 6 ≤ ms) (K1 : (y < 0 ∨ ¬ y ≤ 127) → Post (.inr "java/lang/IllegalArgumentException") h) (K2 : ∀ k : Nat, k < 128 → y = nI k → n = 40 → Post (.inr "java/lang/IllegalStateException") h) (K0 : ∀ k : Nat, k < 128 → y = nI k → n < 40 → ∀ h', CI E U h' x A (upd f n (nI k)) (n + 1) er → fU U h h' → Post (.inl (some (.int (nI (n + 1))))) h') : w_SH_type mc ms E h x y Post := by
  obtain ⟨ln, ch, ce, fil, fo, va, re, ga, od, sb, v, cap, t, x2, x3, st, bf, vf, ff, rf, oo, Fs, c⟩ := c
  obtain ⟨b1, b2, b3, b4, b5⟩ := c.1
  obtain ⟨k1, k2, k3, k4, k5⟩ := c.knds
  unfold w_SH_type
  by_cases h1 : y < 0
  · rw [if_pos h1]
    exact ⟨hm, hs, K1 (Or.inl h1)⟩
  · rw [if_neg h1]
    by_cases h2 : y ≤ 127
    · rw [if_pos h2]
      obtain ⟨k, hk, ek⟩ := nI_of2 (M := 127) (n := 127) (by decide) h1 h2
      have hk8 : k < 128 := by omega
      refine fs_gr_of b1 rfl (fs_gi_of b2 rfl ?_)
      by_cases hn : n < 40
      · rw [if_pos (show nI n < (40 : Int32) from nI_lt (b := 40) hn (by decide))]
        refine fs_gr_of b1 rfl ⟨fs_isc_of b2, ?_⟩
        rw [ek, (chr128 k hk8).1]
        have n1 : ln ≠ ch := fun z => by rw [z] at k2; omega
        have n2 : x ≠ ch := fun z => by rw [z] at k1; omega
        have n3 : x ≠ ln := fun z => by rw [z] at k1; omega
        refine fs_gr_of b2 rfl (fs_gi_of b2 rfl (fs_si_of b3 (nI_in hn (by decide)) ?_))
        rw [nI_clamp (by omega), (chr128 k hk8).2]
        refine fs_gi_of (fs_up_at n1 b2) rfl (fs_pw_of (fs_up_at n1 b2) (Nat.le_of_ble_eq_true rfl) (fs_kv_of ?_))
        refine fs_gr_of (fs_up_at n3 (fs_up_at n2 b1)) rfl (fs_gi_of fs_up_self rfl ?_)
        rw [nI_1]
        have key := c.line (h' := fs_up (fs_up h ch (.inl (E.1.2 4, 40, .inl (upd f n (nI k))))) ln (.inr (1, [.ref ch, .int (nI (n + 1)), .int x2, .int x3]))) (f' := upd f n (nI k)) (n' := n + 1) (er' := er) (y2 := x2) (y3 := x3) (fs_up_at n3 (fs_up_at n2 b1)) fs_up_self (fs_up_at (Ne.symm n1) fs_up_self) (by omega) (fun i hi => by
          rw [upd_at]
          split
          · exact ⟨k, hk8, rfl⟩
          · exact b5 i (by omega)) (fun q q1 q2 q3 _ => by rw [fs_up_ne q2, fs_up_ne q3])
        exact K0 k hk8 ek hn _ key.1.ci key.2
      · rw [if_neg (show ¬ nI n < (40 : Int32) from nI_nlt (b := 40) (by omega) (by omega))]
        exact ⟨hm, hs, K2 k hk8 ek (by omega)⟩
    · rw [if_neg h2]
      exact ⟨hm, hs, K1 (Or.inr h2)⟩
theorem sh_errorAt (c : CI E U h x A f n er) (K : Post (.inl (some (.int er))) h) : w_SH_errorAt E h x Post := by
  obtain ⟨ln, ch, ce, fil, fo, va, re, ga, od, sb, v, cap, t, x2, x3, st, bf, vf, ff, rf, oo, Fs, c⟩ := c
  exact fs_gi_of c.1.1 rfl K
/-- another content, no formula -/
theorem dsj.setN (d : dsj h A Fs) {k0 : Nat} {y : Cl} {F : List Nat} (hy : ∀ L, y ≠ some (.inr L)) (h5 : ∀ q fs, h' q = some (.inr (5, fs)) → ∃ fs', h q = some (.inr (5, fs'))) : dsj h' (fun j => if j = k0 then y else A j) (fun j => if j = k0 then F else Fs j) := by
  have ne : ∀ k, (∃ L, (if k = k0 then y else A k) = some (.inr L)) → k ≠ k0 := fun k ⟨L, hL⟩ z => by
    rw [if_pos z] at hL
    exact hy L hL
  refine d.re (fun k => k) (fun k hk hL => ?_) (fun k j _ _ _ _ hkj => hkj) h5
  have := ne k hL
  try dsimp only
  rw [if_neg this, if_neg this]
  exact ⟨hk, rfl, rfl⟩
/-- a formula -/
theorem dsj.setF (d : dsj h A Fs) {k0 : Nat} {L0 : List It} {F : List Nat} (hF : F.Nodup) (hn : ∀ q ∈ F, ∀ j, j < 80 → j ≠ k0 → (∃ L, A j = some (.inr L)) → q ∈ Fs j → ∀ fs, h q ≠ some (.inr (5, fs))) (h5 : ∀ q fs, h' q = some (.inr (5, fs)) → ∃ fs', h q = some (.inr (5, fs'))) : dsj h' (fun j => if j = k0 then some (.inr L0) else A j) (fun j => if j = k0 then F else Fs j) := by
  refine ⟨fun k hk L hL => ?_, fun k j hk hj hkj fk fj q q1 q2 fs e => ?_⟩
  · try dsimp only at hL ⊢
    by_cases z : k = k0
    · rw [if_pos z]
      exact hF
    · rw [if_neg z] at hL ⊢
      exact d.1 k hk L hL
  · try dsimp only at fk fj q1 q2
    obtain ⟨fs', e'⟩ := h5 q fs e
    by_cases z : k = k0
    · rw [if_pos z] at q1
      have z2 : j ≠ k0 := fun w => hkj (z.trans w.symm)
      rw [if_neg z2] at q2 fj
      exact hn q q1 j hj z2 fj q2 fs' e'
    · rw [if_neg z] at q1 fk
      by_cases z2 : j = k0
      · rw [if_pos z2] at q2
        exact hn q q2 k hk z fk q1 fs' e'
      · rw [if_neg z2] at q2 fj
        exact d.2 k j hk hj hkj fk fj q q1 q2 fs' e'
theorem CIx.setN (c : CIx E U h x A f n er ln ch ce fil fo va re ga od sb v cap t x2 x3 st bf vf ff rf oo Fs) {k : Nat} (hk : k < 80) {y : Cl} {full : Int32} {d : UInt64} (hy : (y = none ∧ full = 0 ∧ d = FP.dconst0) ∨ (y = some (.inl d) ∧ full = 1 ∧ nn d)) (K : ∀ h', CI E U h' x (fun j => if j = k then y else A j) f n er → fU U h h' → Post (.inl none) h') : w_CE_fill E h ce (nI k) full d none Post := by
  have hno : ∀ L, y ≠ some (.inr L) := by
    intro L z
    rcases hy with ⟨e, _⟩ | ⟨e, _⟩ <;> rw [e] at z <;> cases z
  have hx : fil1 E h y [] full d none := by
    rcases hy with ⟨e1, e2, e3⟩ | ⟨e1, e2, e3⟩
    · exact Or.inl ⟨e1, e2, e3, rfl⟩
    · exact Or.inr (Or.inl ⟨d, e1, e2, rfl, e3, rfl⟩)
  refine cls_fill hk c.2.1 hx (fun ⟨L, z⟩ => absurd z (hno L)) fun h' bf' vf' ff' a fr => ?_
  have key := c.cells a (c.2.2.1.setN hno (a.is5 fr)) (Or.inl rfl) (fun q q1 q2 q3 q4 _ _ _ _ => Or.inl (fr q q1 q2 q3 q4)) (fun j hj hL q hq hu => by
    try dsimp only at hL hq
    by_cases z : j = k
    · rw [if_pos z] at hq
      cases hq
    · rw [if_neg z] at hL hq
      exact (c.2.2.2.2.2.2 q hu).2.2.2 (ccp_F hj hL hq))
  exact K h' key.1.ci key.2
theorem sh_put (c : CI E U h x A f n er) {y1 y2 : Int32} {d : UInt64} (hd : nn d) (hm : 2 ≤ mc) (hs : 12 ≤ ms) (K1 : p_MO_out y1 y2 = 1 → Post (.inr "java/lang/IndexOutOfBoundsException") h) (K2 : ∀ C W : Nat, C < 8 → W < 10 → y1 = nI C → y2 = nI W → ¬ nb d → Post (.inr "java/lang/IllegalArgumentException") h) (K0 : ∀ C W : Nat, C < 8 → W < 10 → y1 = nI C → y2 = nI W → nb d → ∀ h', CI E U h' x (fun j => if j = W * 8 + C then some (.inl d) else A j) f n er → fU U h h' → Post (.inl none) h') : w_SH_put mc ms E h x y1 y2 d Post := by
  obtain ⟨ln, ch, ce, fil, fo, va, re, ga, od, sb, v, cap, t, x2, x3, st, bf, vf, ff, rf, oo, Fs, c⟩ := c
  refine ⟨1, 6, by omega, by omega, sh_cell (Nat.le_refl 1) (Nat.le_refl 6) K1 fun C W hC hW e1 e2 => fs_ki_of ?_⟩
  by_cases hn : nb d
  · refine isBad_ok hn (fs_ki_of ?_)
    rw [if_pos rfl]
    refine fs_gr_of c.1.1 rfl ⟨c.2.1.isc, c.2.1.isc, ?_⟩
    exact c.setN (by omega) (Or.inr ⟨rfl, rfl, hd⟩) fun h' a b => fs_kv_of (fs_kv_of (K0 C W hC hW e1 e2 hn h' a b))
  · refine isBad_bad hd hn (fs_ki_of ?_)
    rw [if_neg (show ¬ (1 : Int32) = 0 by decide)]
    exact ⟨by omega, by omega, K2 C W hC hW e1 e2 hn⟩
theorem sh_erase (c : CI E U h x A f n er) {y1 y2 : Int32} (hm : 2 ≤ mc) (hs : 12 ≤ ms) (K1 : p_MO_out y1 y2 = 1 → Post (.inr "java/lang/IndexOutOfBoundsException") h) (K2 : ∀ C W : Nat, C < 8 → W < 10 → y1 = nI C → y2 = nI W → A (W * 8 + C) = none → Post (.inr "java/util/NoSuchElementException") h) (K0 : ∀ C W : Nat, C < 8 → W < 10 → y1 = nI C → y2 = nI W → A (W * 8 + C) ≠ none → ∀ h', CI E U h' x (fun j => if j = W * 8 + C then none else A j) f n er → fU U h h' → Post (.inl none) h') : w_SH_erase mc ms E h x y1 y2 Post := by
  obtain ⟨ln, ch, ce, fil, fo, va, re, ga, od, sb, v, cap, t, x2, x3, st, bf, vf, ff, rf, oo, Fs, c⟩ := c
  refine ⟨2, 12, hm, hs, fs_isc_of c.1.1, sh_fcell c (Nat.le_refl 2) (Nat.le_refl 12) K1 K2 fun C W hC hW e1 e2 hA => fs_ki_of ?_⟩
  refine fs_gr_of c.1.1 rfl ⟨c.2.1.isc, c.2.1.isc, ?_⟩
  exact c.setN (by omega) (Or.inl ⟨rfl, rfl, rfl⟩) fun h' a b => fs_kv_of (fs_kv_of (K0 C W hC hW e1 e2 hA h' a b))
theorem sh_row {y : Int32} (hm : 1 ≤ mc) (hs : 6 ≤ ms) (K1 : p_MO_out 0 y = 1 → Post (.inr "java/lang/IndexOutOfBoundsException") h) (K0 : ∀ W : Nat, W < 10 → y = nI W → Post (.inl (some (.int (nI (W * 8 + 0))))) h) : w_SH_cellAt mc ms E h 0 y Post := sh_cell hm hs K1 fun C W hC hW e1 e2 => by
  have : C = 0 := ((nI_eq (a := 0) (by decide) (by omega)).mp e1).symm
  rw [this]
  exact K0 W hW e2
theorem sh_insert (c : CI E U h x A f n er) {y : Int32} (hm : 1 ≤ mc) (hs : 6 ≤ ms) (K1 : p_MO_out 0 y = 1 → Post (.inr "java/lang/IndexOutOfBoundsException") h) (K0 : ∀ W : Nat, W < 10 → y = nI W → ∀ h', CI E U h' x (insS A W) f n er → fU U h h' → Post (.inl (some (.int (nI (rowc A 9))))) h') : w_SH_insert mc ms E h x y Post := by
  obtain ⟨ln, ch, ce, fil, fo, va, re, ga, od, sb, v, cap, t, x2, x3, st, bf, vf, ff, rf, oo, Fs, c⟩ := c
  refine ⟨1, 6, hm, hs, sh_row (Nat.le_refl 1) (Nat.le_refl 6) K1 fun W hW e => fs_ki_of ?_⟩
  refine fs_gr_of c.1.1 rfl ⟨c.2.1.isc, ?_⟩
  rw [e]
  refine cls_rowIn hW c.2.1 c.2.2.1 fun h' bf' vf' ff' Fs' a b g s => fs_ki_of ?_
  have key := c.cells a b (Or.inl rfl) (fun q q1 q2 q3 q4 _ _ _ _ => by
    rcases g q q1 q2 q3 q4 with w | ⟨w, _⟩
    · exact Or.inl w
    · exact Or.inr w) (fun j hj hL q hq hu => by
    obtain ⟨i, hi, hL', e'⟩ := s j hj hL
    rw [e'] at hq
    exact (c.2.2.2.2.2.2 q hu).2.2.2 (ccp_F hi hL' hq))
  exact K0 W hW e h' key.1.ci key.2
theorem sh_delete (c : CI E U h x A f n er) {y : Int32} (hm : 1 ≤ mc) (hs : 6 ≤ ms) (K1 : p_MO_out 0 y = 1 → Post (.inr "java/lang/IndexOutOfBoundsException") h) (K0 : ∀ W : Nat, W < 10 → y = nI W → ∀ h', CI E U h' x (delS A W) f n er → fU U h h' → Post (.inl (some (.int (nI (rowc A W))))) h') : w_SH_delete mc ms E h x y Post := by
  obtain ⟨ln, ch, ce, fil, fo, va, re, ga, od, sb, v, cap, t, x2, x3, st, bf, vf, ff, rf, oo, Fs, c⟩ := c
  refine ⟨1, 6, hm, hs, sh_row (Nat.le_refl 1) (Nat.le_refl 6) K1 fun W hW e => fs_ki_of ?_⟩
  refine fs_gr_of c.1.1 rfl ⟨c.2.1.isc, ?_⟩
  rw [e]
  refine cls_rowOut hW c.2.1 c.2.2.1 fun h' bf' vf' ff' Fs' a b g s => fs_ki_of ?_
  have key := c.cells a b (Or.inl rfl) (fun q q1 q2 q3 q4 _ _ _ _ => by
    rcases g q q1 q2 q3 q4 with w | ⟨w, _⟩
    · exact Or.inl w
    · exact Or.inr w) (fun j hj hL q hq hu => by
    obtain ⟨i, hi, hL', e'⟩ := s j hj hL
    rw [e'] at hq
    exact (c.2.2.2.2.2.2 q hu).2.2.2 (ccp_F hi hL' hq))
  exact K0 W hW e h' key.1.ci key.2
end
