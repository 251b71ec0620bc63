/-! Pure: the class's face: value, kind, reaches, count, text. -/
def kdC (x : Cl) (c : Bool) (v : Vl) : Int32 := match x with | none => 0 | some (.inl _) => 1 | some (.inr _) => if c = true then 4 else if v = none then 3 else 2
def kdA (A : Shh) (k : Nat) : Int32 := kdC (A k) (rea A k k) (val A k)
def ctA (A : Shh) (n : Nat) (y : Int32) : Int32 := if y = 0 then nI n else if y = 1 then nI (cnt (fun k => (A k).isSome)) else if y = 2 then nI (cnt (fun k => (fmo (A k)).isSome)) else if y = 3 then nI (cnt (fun k => rea A k k)) else if y = 4 then nI (cnt (isB A)) else if y = 5 then nI (smr (fun k => lsC (A k)) 80 0) else -1
theorem chr255 : ∀ c, c < 128 → (Int32.toUInt32 (nI c &&& (255 : Int32)) % 65536).toInt32 = nI c := by decide
section
variable {E : fs_E} {U : Nat → Prop} {h h' : fs_Hp} {x ln ch ce fil fo va re ga od sb v cap n : Nat} {A : Shh} {f : Nat → Int32} {t : List Nat} {er x2 x3 st : Int32} {bf : Nat → Int32} {vf : Nat → UInt64} {ff rf : Nat → Option Nat} {oo : Nat → Int32} {Fs : Nat → List Nat} {mc ms : Nat} {Post : fs_Ps}
theorem CIx.settle (hE : fs_In E) (hA : shok A) (c : CIx E U h x A f n er ln ch ce fil fo va re ga od sb v cap t x2 x3 st bf vf ff rf oo Fs) (K : ∀ h' vf' oo', CIx E U h' x A f n er ln ch ce fil fo va re ga od sb v cap t x2 x3 1 bf vf' ff rf oo' Fs → stld A h' rf vf' → fU U h h' → Post (.inl none) h') : w_CE_settle E h ce Post := by
  obtain ⟨P, hr⟩ := c.2.1.2.2.2.1
  refine cls_settle hE hA c.2.1.2.2.1 c.2.1.1 c.2.1.2.1 hr c.2.1.2.2.2.2.1 c.2.2.2.1 fun h' vf' oo' fr a b cl s => ?_
  have c' : clL E h' A ce fil fo va re ga od 1 bf vf' ff rf oo' Fs := ⟨a, b, c.2.1.2.2.1, ⟨rea A, s.1⟩, cl, c.2.1.2.2.2.2.2⟩
  have h5 : ∀ q fs, h' q = some (.inr (5, fs)) → ∃ fs', h q = some (.inr (5, fs')) := by
    intro q fs e
    have n1 : q ≠ ce := fun z => by rw [z, a.1.1] at e; cases e
    have n2 : q ≠ va := fun z => by rw [z, a.1.2.2.1] at e; cases e
    have n3 : q ≠ od := fun z => by rw [z, a.2.2.2.2.1] at e; cases e
    obtain ⟨gf, g⟩ := a.2.1
    unfold gaF at g
    have n4 : q ≠ ga := fun z => by rw [z, g] at e; cases e
    have n5 : ∀ k, k < 80 → rf k ≠ some q := fun k hk z => by
      obtain ⟨s', e1, lo, hi, e2, _⟩ := s.1 k hk
      rw [z] at e1
      cases e1
      rw [e2] at e
      cases e
    exact ⟨fs, by rw [← fr q n1 n2 n3 n4 n5]; exact e⟩
  have d' : dsj h' A Fs := c.2.2.1.re (fun k => k) (fun k hk _ => ⟨hk, rfl, rfl⟩) (fun k j _ _ _ _ hkj => hkj) h5
  have key := c.cells c' d' (Or.inr ⟨rfl, s⟩) (fun q q1 _ q3 _ q5 q6 q7 _ => Or.inl (fr q q1 q3 q5 q6 q7)) (fun j hj hL q hq hu => (c.2.2.2.2.2.2 q hu).2.2.2 (ccp_F hj hL hq))
  exact K h' vf' oo' key.1 s key.2
theorem sh_value (hE : fs_In E) (hA : shok A) (c : CI E U h x A f n er) {y1 y2 : Int32} (hm : 3 ≤ mc) (hs : 18 ≤ ms) (K1 : p_MO_out y1 y2 = 1 → Post (.inr "java/lang/IndexOutOfBoundsException") h) (K2 : ∀ C W : Nat, C < 8 → W < 10 → y1 = nI C → y2 = nI W → A (W * 8 + C) = none → Post (.inr "java/util/NoSuchElementException") h) (K3 : ∀ C W : Nat, C < 8 → W < 10 → y1 = nI C → y2 = nI W → A (W * 8 + C) ≠ none → rea A (W * 8 + C) (W * 8 + C) = true → ∀ h', CI E U h' x A f n er → fU U h h' → Post (.inr "java/lang/IllegalStateException") h') (K4 : ∀ C W : Nat, C < 8 → W < 10 → y1 = nI C → y2 = nI W → A (W * 8 + C) ≠ none → rea A (W * 8 + C) (W * 8 + C) = false → val A (W * 8 + C) = none → ∀ h', CI E U h' x A f n er → fU U h h' → Post (.inr "java/lang/ArithmeticException") h') (K0 : ∀ C W : Nat, C < 8 → W < 10 → y1 = nI C → y2 = nI W → A (W * 8 + C) ≠ none → rea A (W * 8 + C) (W * 8 + C) = false → ∀ d, nb d → val A (W * 8 + C) = some d → ∀ h', CI E U h' x A f n er → fU U h h' → Post (.inl (some (.double d))) h') : w_SH_value mc ms E h x y1 y2 Post := by
  obtain ⟨ln, ch, ce, fil, fo, va, re, ga, od, sb, v, cap, t, x2, x3, st, bf, vf, ff, rf, oo, Fs, c⟩ := c
  refine ⟨2, 12, by omega, by omega, fs_isc_of c.1.1, sh_fcell c (Nat.le_refl 2) (Nat.le_refl 12) K1 K2 fun C W hC hW e1 e2 hne => fs_ki_of ?_⟩
  have hk : W * 8 + C < 80 := by omega
  have kin : vp_in (nI (W * 8 + C)) 80 := nI_in hk (by omega)
  refine fs_gr_of c.1.1 rfl ⟨c.2.1.isc, c.settle hE hA fun h' vf' oo' c' s u => fs_kv_of ?_⟩
  refine fs_gr_of c'.1.1 rfl ⟨c'.2.1.isc, ce_circ hk c'.2.1.1 s.1 (fs_ki_of ?_)⟩
  cases er : rea A (W * 8 + C) (W * 8 + C) with
  | true =>
    rw [bi_1 rfl, if_neg (show ¬ (1 : Int32) = 0 by decide)]
    exact ⟨by omega, by omega, K3 C W hC hW e1 e2 hne er h' c'.ci u⟩
  | false =>
    rw [bi_0 rfl, if_pos rfl]
    refine fs_gr_of c'.1.1 rfl (fs_gr_of c'.2.1.1.1.1 rfl (fs_ad_of c'.2.1.1.1.2.2.1 kin ?_))
    rw [nI_clamp (by omega)]
    have hck := s.2 _ hk hne (by simp)
    have hnn := c'.2.1.1.1.2.2.2.2 _ hk
    by_cases hn : nb (vf' (W * 8 + C))
    · refine isBad_ok hn (fs_ki_of ?_)
      rw [if_pos rfl]
      refine fs_gr_of c'.1.1 rfl (fs_gr_of c'.2.1.1.1.1 rfl (fs_ad_of c'.2.1.1.1.2.2.1 kin ?_))
      rw [nI_clamp (by omega)]
      rw [ck_ok hn] at hck
      exact K0 C W hC hW e1 e2 hne er _ hn hck.symm h' c'.ci u
    · refine isBad_bad hnn hn (fs_ki_of ?_)
      rw [if_neg (show ¬ (1 : Int32) = 0 by decide)]
      rw [ck_bad hnn hn] at hck
      exact ⟨by omega, by omega, K4 C W hC hW e1 e2 hne er hck.symm h' c'.ci u⟩
theorem sh_kind (hE : fs_In E) (hA : shok A) (c : CI E U h x A f n er) {y1 y2 : Int32} (hm : 3 ≤ mc) (hs : 18 ≤ ms) (K1 : p_MO_out y1 y2 = 1 → Post (.inr "java/lang/IndexOutOfBoundsException") h) (K0 : ∀ C W : Nat, C < 8 → W < 10 → y1 = nI C → y2 = nI W → ∀ h', CI E U h' x A f n er → fU U h h' → Post (.inl (some (.int (kdA A (W * 8 + C))))) h') : w_SH_kind mc ms E h x y1 y2 Post := by
  obtain ⟨ln, ch, ce, fil, fo, va, re, ga, od, sb, v, cap, t, x2, x3, st, bf, vf, ff, rf, oo, Fs, c⟩ := c
  refine ⟨1, 6, by omega, by omega, sh_cell (Nat.le_refl 1) (Nat.le_refl 6) K1 fun C W hC hW e1 e2 => fs_ki_of ?_⟩
  have hk : W * 8 + C < 80 := by omega
  have kin : vp_in (nI (W * 8 + C)) 80 := nI_in hk (by omega)
  have K9 := K0 C W hC hW e1 e2
  unfold kdA at K9
  refine fs_gr_of c.1.1 rfl (fs_gr_of c.2.1.1.1.1 rfl (fs_ai_of c.2.1.1.1.2.1 kin ?_))
  rw [nI_clamp (by omega)]
  have hb := c.2.1.2.2.2.2.1.b hk
  match e : A (W * 8 + C) with
  | none =>
    rw [e] at hb
    rw [show bf (W * 8 + C) = 0 from hb, if_pos rfl]
    rw [e] at K9
    exact K9 h c.ci fU.sm
  | some (.inl d) =>
    rw [e] at hb
    rw [show bf (W * 8 + C) = 1 from hb, if_neg (show ¬ (1 : Int32) = 0 by decide)]
    refine fs_gr_of c.1.1 rfl (fs_gr_of c.2.1.1.1.1 rfl (fs_aq_of c.2.1.1.2.2.1 kin ?_))
    rw [nI_clamp (by omega), (c.2.1.2.1 _ hk).2 (fun L z => by rw [e] at z; cases z)]
    try dsimp only
    rw [e] at K9
    exact K9 h c.ci fU.sm
  | some (.inr L) =>
    rw [e] at hb
    rw [show bf (W * 8 + C) = 1 from hb, if_neg (show ¬ (1 : Int32) = 0 by decide)]
    refine fs_gr_of c.1.1 rfl (fs_gr_of c.2.1.1.1.1 rfl (fs_aq_of c.2.1.1.2.2.1 kin ?_))
    obtain ⟨r0, r1, _⟩ := (c.2.1.2.1 _ hk).1 L e
    rw [nI_clamp (by omega), r1]
    try dsimp only
    rw [e] at K9
    have hne : A (W * 8 + C) ≠ none := by rw [e]; exact fun z => by cases z
    refine fs_gr_of c.1.1 rfl ⟨c.2.1.isc, c.settle hE hA fun h' vf' oo' c' s u => fs_kv_of ?_⟩
    refine fs_gr_of c'.1.1 rfl ⟨c'.2.1.isc, ce_circ hk c'.2.1.1 s.1 (fs_ki_of ?_)⟩
    replace K9 := K9 h' c'.ci u
    unfold kdC at K9
    try dsimp only at K9
    cases er : rea A (W * 8 + C) (W * 8 + C) with
    | true =>
      rw [bi_1 rfl, if_neg (show ¬ (1 : Int32) = 0 by decide)]
      rw [if_pos er] at K9
      exact K9
    | false =>
      rw [bi_0 rfl, if_pos rfl]
      rw [if_neg (by rw [er]; decide)] at K9
      refine fs_gr_of c'.1.1 rfl (fs_gr_of c'.2.1.1.1.1 rfl (fs_ad_of c'.2.1.1.1.2.2.1 kin ?_))
      rw [nI_clamp (by omega)]
      have hck := s.2 _ hk hne (by simp)
      have hnn := c'.2.1.1.1.2.2.2.2 _ hk
      by_cases hn : nb (vf' (W * 8 + C))
      · refine isBad_ok hn (fs_ki_of ?_)
        rw [if_pos rfl]
        rw [ck_ok hn] at hck
        rw [if_neg (by rw [← hck]; exact fun z => by cases z)] at K9
        exact K9
      · refine isBad_bad hnn hn (fs_ki_of ?_)
        rw [if_neg (show ¬ (1 : Int32) = 0 by decide)]
        rw [ck_bad hnn hn] at hck
        rw [if_pos hck.symm] at K9
        exact K9
theorem sh_reaches (hE : fs_In E) (hA : shok A) (c : CI E U h x A f n er) {y1 y2 y3 y4 : Int32} (hm : 3 ≤ mc) (hs : 18 ≤ ms) (K1 : (p_MO_out y1 y2 = 1 ∨ p_MO_out y3 y4 = 1) → Post (.inr "java/lang/IndexOutOfBoundsException") h) (K0 : ∀ C W C' W' : Nat, C < 8 → W < 10 → C' < 8 → W' < 10 → y1 = nI C → y2 = nI W → y3 = nI C' → y4 = nI W' → ∀ h', CI E U h' x A f n er → fU U h h' → Post (.inl (some (.int (bi (rea A (W * 8 + C) (W' * 8 + C')))))) h') : w_SH_reaches mc ms E h x y1 y2 y3 y4 Post := by
  obtain ⟨ln, ch, ce, fil, fo, va, re, ga, od, sb, v, cap, t, x2, x3, st, bf, vf, ff, rf, oo, Fs, c⟩ := c
  refine ⟨1, 6, by omega, by omega, sh_cell (Nat.le_refl 1) (Nat.le_refl 6) (fun e => K1 (Or.inl e)) fun C W hC hW e1 e2 => fs_ki_of ?_⟩
  refine ⟨1, 6, by omega, by omega, sh_cell (Nat.le_refl 1) (Nat.le_refl 6) (fun e => K1 (Or.inr e)) fun C' W' hC' hW' e3 e4 => fs_ki_of ?_⟩
  have hk : W * 8 + C < 80 := by omega
  have hk' : W' * 8 + C' < 80 := by omega
  have kin : vp_in (nI (W * 8 + C)) 80 := nI_in hk (by omega)
  refine fs_gr_of c.1.1 rfl ⟨c.2.1.isc, c.settle hE hA fun h' vf' oo' c' s u => fs_kv_of ?_⟩
  refine fs_gr_of c'.1.1 rfl (fs_gr_of c'.2.1.1.1.1 rfl (fs_aq_of c'.2.1.1.2.2.2.1 kin ?_))
  obtain ⟨s0, s1, s2⟩ := s.1 _ hk
  rw [nI_clamp (by omega), s1]
  try dsimp only
  have K9 := K0 C W C' W' hC hW hC' hW' e1 e2 e3 e4 h' c'.ci u
  refine ⟨s2.isc, ks_has s2 hk' (fs_ki_of ⟨?_, K9⟩)⟩
  cases rea A (W * 8 + C) (W' * 8 + C') <;> decide
theorem sh_count (hE : fs_In E) (hA : shok A) (c : CI E U h x A f n er) {y : Int32} (K : ∀ h', CI E U h' x A f n er → fU U h h' → Post (.inl (some (.int (ctA A n y)))) h') : w_SH_count E h x y Post := by
  obtain ⟨ln, ch, ce, fil, fo, va, re, ga, od, sb, v, cap, t, x2, x3, st, bf, vf, ff, rf, oo, Fs, c⟩ := c
  unfold ctA at K
  unfold w_SH_count
  by_cases h0 : y = 0
  · rw [if_pos h0]
    rw [if_pos h0] at K
    exact fs_gr_of c.1.1 rfl (fs_gi_of c.1.2.1 rfl (K h c.ci fU.sm))
  rw [if_neg h0]
  rw [if_neg h0] at K
  by_cases h1 : y = 1
  · rw [if_pos h1]
    rw [if_pos h1] at K
    refine fs_gr_of c.1.1 rfl ⟨c.2.1.isc, ?_⟩
    refine (show ∀ {Post : fs_Ps}, Post (.inl (some (.int (nI (cfr (fun k => (A k).isSome) (80 - 0) 0))))) h → w_CE_filledFrom E h ce 0 80 Post from fun K' => cls_filledFrom (A := A) (a := 0) (b := 80) c.2.1.1.1 c.2.1.2.2.2.2.1 (by decide) (by decide) K') (fs_ki_of ?_)
    have e : cfr (fun k => (A k).isSome) (80 - 0) 0 = cnt (fun k => (A k).isSome) := cfr_80 _
    rw [e]
    exact K h c.ci fU.sm
  rw [if_neg h1]
  rw [if_neg h1] at K
  by_cases h2 : y = 2
  · rw [if_pos h2]
    rw [if_pos h2] at K
    exact fs_gr_of c.1.1 rfl ⟨c.2.1.isc, cls_formulas (A := A) (Fs := Fs) c.2.1.1 c.2.1.2.1 (fs_ki_of (K h c.ci fU.sm))⟩
  rw [if_neg h2]
  rw [if_neg h2] at K
  by_cases h3 : y = 3
  · rw [if_pos h3]
    rw [if_pos h3] at K
    refine fs_gr_of c.1.1 rfl ⟨c.2.1.isc, c.2.1.isc, c.settle hE hA fun h' vf' oo' c' s u => fs_kv_of ⟨80 + 1, ?_⟩⟩
    exact ca_L8 (A := A) c'.2.1.1 s.1 80 0 0 (by omega) (fs_ki_of (by rw [Nat.zero_add, cfr_80]; exact K h' c'.ci u))
  rw [if_neg h3]
  rw [if_neg h3] at K
  by_cases h4 : y = 4
  · rw [if_pos h4]
    rw [if_pos h4] at K
    refine fs_gr_of c.1.1 rfl ⟨c.2.1.isc, c.2.1.isc, c.settle hE hA fun h' vf' oo' c' s u => fs_kv_of ⟨80 + 1, ?_⟩⟩
    exact ba_L8 (A := A) c'.2.1.1.1 c'.2.1.2.2.2.2.1 s.2 80 0 0 (by omega) (fs_ki_of (by rw [Nat.zero_add, cfr_80]; exact K h' c'.ci u))
  rw [if_neg h4]
  rw [if_neg h4] at K
  by_cases h5 : y = 5
  · rw [if_pos h5]
    rw [if_pos h5] at K
    exact fs_gr_of c.1.1 rfl ⟨c.2.1.isc, cls_lostAll (A := A) (Fs := Fs) c.2.1.1 c.2.1.2.1 (fs_ki_of (K h c.ci fU.sm))⟩
  rw [if_neg h5]
  rw [if_neg h5] at K
  exact K h c.ci fU.sm
theorem sbR.isc (a : sbR E h sb v cap t) : fs_isc h sb 11 := by
  obtain ⟨g, y, h1, _⟩ := a
  exact fs_isc_of h1
theorem sb_zero (a : sbR E h sb v cap t) (K : ∀ h', sbR E h' sb v cap [] → (∀ q, q ≠ sb → h' q = h q) → Post (.inl none) h') : w_SB_setLength mc ms E h sb 0 Post := by
  obtain ⟨g, y, h1, h2, h3, h4, h5, h6⟩ := a
  have nv : v ≠ sb := fun z => by rw [z, h1] at h2; cases h2
  refine ⟨0, 0, Nat.zero_le _, Nat.zero_le _, fs_isc_of h1, ?_⟩
  unfold w_AB_setLength
  rw [if_pos (show (0 : Int32) ≤ 0 by decide)]
  refine ⟨0, 0, Nat.le_refl _, Nat.le_refl _, fs_isc_of h1, ?_⟩
  refine fs_gr_of h1 rfl (fs_an_of h2 (fs_gi_of h1 rfl ?_))
  rw [sh_r0, if_pos (show (0 : Int32) - Int32.ofNat cap ≤ 0 from (sub_le0 (m := 0) (by omega) (by omega)).mpr (Nat.zero_le _))]
  refine fs_kv_of (fs_gi_of h1 rfl ?_)
  rw [if_pos (show (0 : Int32) ≤ nI t.length from nI_pos' (by omega))]
  refine fs_gi_of h1 rfl ?_
  by_cases hz : nI t.length ≤ 0
  · rw [if_pos hz]
    refine fs_pw_of h1 (Nat.le_of_ble_eq_true rfl) (fs_kv_of (K _ ⟨g, y, fs_up_self, fs_up_at nv h2, Nat.zero_le _, h4, h5, fun i c hi => by cases hi⟩ fun q hq => fs_up_ne hq))
  · rw [if_neg hz]
    refine fs_pw_of h1 (Nat.le_of_ble_eq_true rfl) (fs_pw_of fs_up_self (Nat.le_of_ble_eq_true rfl) (fs_kv_of (K _ ⟨g, 1, fs_up_self, fs_up_at nv (fs_up_at nv h2), Nat.zero_le _, h4, h5, fun i c hi => by cases hi⟩ fun q hq => (fs_up_ne hq).trans (fs_up_ne hq))))
theorem sb_length (a : sbR E h sb v cap t) (K : Post (.inl (some (.int (nI t.length)))) h) : w_SB_length E h sb Post := by
  obtain ⟨g, y, h1, _⟩ := a
  exact ⟨fs_isc_of h1, fs_gi_of h1 rfl (fs_ki_of K)⟩
theorem sb_charAt (a : sbR E h sb v cap t) {i : Nat} (hi : i < t.length) (K : Post (.inl (some (.int (nI (t.getD i 0))))) h) : w_SB_charAt E h sb (nI i) Post := by
  obtain ⟨g, y, h1, h2, h3, h4, h5, h6⟩ := a
  refine ⟨fs_isc_of h1, fs_gi_of h1 rfl (fs_gr_of h1 rfl (fs_gi_of h1 rfl (fs_an_of h2 fun o => ?_)))⟩
  obtain ⟨c, hc, ec⟩ := h5 i (by omega)
  have e1 : g i = nI (t.getD i 0) := by
    rw [h6 i _ (List.getElem?_eq_getElem hi), List.getD_eq_getElem?_getD, List.getElem?_eq_getElem hi]
    rfl
  have e2 : c = t.getD i 0 ∨ True := Or.inr trivial
  unfold w_PC_checkIndex
  rw [if_neg (nI_pos (by omega)), sh_r0, if_neg (show ¬ Int32.ofNat cap < nI t.length from nI_nlt h3 (by omega)), if_pos (nI_lt hi (by omega))]
  refine fs_ki_of (fs_kv_of ?_)
  rw [if_pos rfl]
  refine fs_ai_of h2 (nI_in (by omega) (by omega)) ?_
  rw [nI_clamp (by omega)]
  have e3 : (Int32.toUInt32 (g i &&& (255 : Int32)) % 65536).toInt32 = g i := by rw [ec]; exact chr255 c hc
  refine ⟨pk_nc _, fs_ki_of ⟨pk_nc _, ?_⟩⟩
  rw [e3, e1]
  exact K
theorem sh_text (hA : shok A) (c : CI E U h x A f n er) {y1 y2 y3 : Int32} (hm : 8 ≤ mc) (hs : 4100 ≤ ms) (K1 : p_MO_out y1 y2 = 1 → Post (.inr "java/lang/IndexOutOfBoundsException") h) (K2 : ∀ C W : Nat, C < 8 → W < 10 → y1 = nI C → y2 = nI W → (∀ L, A (W * 8 + C) ≠ some (.inr L)) → Post (.inr "java/lang/UnsupportedOperationException") h) (K0 : ∀ C W : Nat, C < 8 → W < 10 → y1 = nI C → y2 = nI W → ∀ L, A (W * 8 + C) = some (.inr L) → ∀ h', CI E U h' x A f n er → fU U h h' → Post (.inl (some (.int (txc (tex L) y3)))) h') : w_SH_text mc ms E h x y1 y2 y3 Post := by
  obtain ⟨ln, ch, ce, fil, fo, va, re, ga, od, sb, v, cap, t, x2, x3, st, bf, vf, ff, rf, oo, Fs, c⟩ := c
  refine fs_gr_of c.1.1 rfl (fs_gr_of c.2.1.1.1.1 rfl ⟨1, 6, by omega, by omega, sh_cell (Nat.le_refl 1) (Nat.le_refl 6) K1 fun C W hC hW e1 e2 => fs_ki_of ?_⟩)
  have hk : W * 8 + C < 80 := by omega
  have kin : vp_in (nI (W * 8 + C)) 80 := nI_in hk (by omega)
  refine fs_aq_of c.2.1.1.2.2.1 kin ?_
  rw [nI_clamp (by omega)]
  by_cases hf : ∃ L, A (W * 8 + C) = some (.inr L)
  · obtain ⟨L, hL⟩ := hf
    obtain ⟨r0, r1, r2⟩ := (c.2.1.2.1 _ hk).1 L hL
    obtain ⟨hfk, hlen, htx⟩ := (hA _ hk).2 L hL
    have K9 := K0 C W hC hW e1 e2 L hL
    rw [r1]
    try dsimp only
    obtain ⟨⟨s0, s1⟩, s2⟩ := c.2.2.2.2
    have hsb : h sb ≠ none := knd_no (by have := c.knds; omega)
    refine fs_gr_of c.1.1 rfl ⟨0, 0, Nat.zero_le _, Nat.zero_le _, s0.isc, ?_⟩
    refine sb_zero s0 fun h1 z1 z2 => fs_kv_of ?_
    have k1 := c.knds
    have nx : x ≠ sb := fun z => by rw [z] at k1; omega
    have hx1 := (z2 x nx).trans c.1.1
    have hr1 : rp 41 E h1 r0 L (Fs (W * 8 + C)) := r2.kept 41 fun q hq => z2 q fun z => c.far (Or.inr (Or.inr (Or.inr (Or.inl rfl)))) (z ▸ ccp_F hk ⟨L, hL⟩ hq)
    obtain ⟨P, l, w⟩ := cls_bare 41 hr1 htx.1
    have et : tex L = P.flatten := by
      unfold tex
      rw [w.2.1 []]
      rfl
    have hT := tex_len hfk htx
    rw [et] at hT
    have l5 := lev_5 cap
    refine fs_gr_of hx1 rfl ⟨5, 4010, by omega, by omega, ?_⟩
    have g0 : Gd E h1 sb v P.flatten (capC cap 0 P) P 5 4010 h1 := ⟨v, cap, [], z1, gS.rf, Or.inl rfl, s1, rfl, rfl, hT, by omega, by omega⟩
    have g1 : Gd E h1 sb v P.flatten (capC cap 0 P) (brC 0 (P, l)) 5 4010 h1 := by
      unfold brC
      rw [if_neg (Nat.not_lt_zero l)]
      exact g0
    refine (show ∀ {Post : fs_Ps}, (∀ h' mc' ms', Gd E h1 sb v P.flatten (capC cap 0 P) [] mc' ms' h' → Post (.inl none) h') → w_V_write (w_N_writeBare 42) 5 4010 E h1 r0 sb 0 Post from fun K' => w.V (need := 0) (by omega) z1 g1 K') fun h2 mc' ms' gd => fs_kv_of ?_
    obtain ⟨v', cap', t', q1, q2, q3, q4, q5, _⟩ := gd
    rw [List.flatten_nil, List.append_nil] at q5
    have gz : gS sb v h h1 := fun q a1 _ _ => z2 q a1
    have gg : gS sb v h h2 := gz.trans (Or.inl rfl) q2
    have hv : v' = v ∨ h v' = none := by
      rcases q3 with w | w
      · exact Or.inl w
      · by_cases zz : v' = sb
        · obtain ⟨gq, yq, u1, _⟩ := z1
          rw [zz, u1] at w
          cases w
        · exact Or.inr ((z2 v' zz).symm.trans w)
    have key := c.text q1 q4 hv gg
    have hx2 := key.1.1.1
    have K10 := K9 h2 key.1.ci key.2
    rw [et] at K10
    unfold txc at K10
    by_cases hneg : y3 < 0
    · rw [if_pos hneg]
      rw [if_pos hneg] at K10
      exact K10
    · rw [if_neg hneg]
      rw [if_neg hneg] at K10
      refine fs_gr_of hx2 rfl ⟨q1.isc, sb_length q1 (fs_ki_of ?_)⟩
      rw [← q5]
      by_cases hlt : y3 < nI P.flatten.length
      · obtain ⟨i, hi, rfl⟩ := nI_idx hneg hlt (by omega)
        rw [if_neg (nI_ge hi (by omega))]
        rw [if_pos hlt, nI_clamp (by omega)] at K10
        refine fs_gr_of hx2 rfl ⟨q1.isc, ?_⟩
        refine sb_charAt q1 (by rw [← q5]; exact hi) (fs_ki_of ?_)
        rw [← q5]
        exact K10
      · rw [if_neg hlt] at K10
        rw [if_pos (show nI P.flatten.length ≤ y3 by
          rw [Int32.le_iff_toInt_le]
          rw [Int32.lt_iff_toInt_lt] at hlt
          omega)]
        exact K10
  · have hno : ∀ L, A (W * 8 + C) ≠ some (.inr L) := fun L z => hf ⟨L, z⟩
    rw [(c.2.1.2.1 _ hk).2 hno]
    try dsimp only
    exact ⟨by omega, by omega, K2 C W hC hW e1 e2 hno⟩
end
