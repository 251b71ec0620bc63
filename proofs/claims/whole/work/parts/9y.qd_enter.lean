/-! Pure: the class's face: enter, copy. -/
section
variable {E : fs_E} {U : Nat → Prop} {h h' : fs_Hp} {x ln ch ce fil fo va re ga od sb v cap n : Nat} {A : Shh} {f : Nat → Int32} {t : List Nat} {er x2 x3 st : Int32} {bf : Nat → Int32} {vf : Nat → UInt64} {ff rf : Nat → Option Nat} {oo : Nat → Int32} {Fs : Nat → List Nat} {mc ms : Nat} {Post : fs_Ps}
theorem CI.byX (c : CI E U h x A f n er) (e : ext h h') : CI E U h' x A f n er ∧ fU U h h' := by
  obtain ⟨ln, ch, ce, fil, fo, va, re, ga, od, sb, v, cap, t, x2, x3, st, bf, vf, ff, rf, oo, Fs, c⟩ := c
  exact ⟨(c.byX e).1.ci, (c.byX e).2⟩
/-- a part outlives a change of the cells -/
theorem rp.byF (c : clL E h A ce fil fo va re ga od st bf vf ff rf oo Fs) (fr : fcF ce fil va fo h h') {m r : Nat} {L : List It} {F : List Nat} (t : rp m E h r L F) (hfo : fo ∉ F) : rp m E h' r L F := by
  refine t.kept m fun q hq => fr q (fun z => ?_) (fun z => rp_notI t c.1.1.2.1 (z ▸ hq)) (fun z => rp_notD t c.1.1.2.2.1 (z ▸ hq)) (fun z => hfo (z ▸ hq))
  rcases rp_cls m t q hq with ⟨cc, fs, w1, w2, w3⟩ | ⟨mm, g, w3⟩
  · rw [z, c.1.1.1] at w3; cases w3; omega
  · unfold tr_in at w3; rw [z, c.1.1.1] at w3; cases w3
theorem CIx.setF (c : CIx E U h x A f n er ln ch ce fil fo va re ga od sb v cap t x2 x3 st bf vf ff rf oo Fs) {k r : Nat} {L : List It} {F : List Nat} (hk : k < 80) (tr : rp 41 E h r L F) (hnd : F.Nodup) (hU : ∀ q ∈ F, ¬ U q) (hfo : fo ∉ F) (hn : ∀ q ∈ F, ∀ j, j < 80 → j ≠ k → (∃ L, A j = some (.inr L)) → q ∈ Fs j → ∀ fs, h q ≠ some (.inr (5, fs))) (K : ∀ h', CI E U h' x (fun j => if j = k then some (.inr L) else A j) f n er → fU U h h' → fcF ce fil va fo h h' → Post (.inl none) h') : w_CE_fill E h ce (nI k) 1 FP.dconst0 (some r) Post := by
  have hx : fil1 E h (some (.inr L)) F 1 FP.dconst0 (some r) := Or.inr (Or.inr ⟨L, r, rfl, rfl, nb_0.nn, rfl, tr⟩)
  refine cls_fill hk c.2.1 hx (fun _ => hfo) fun h' bf' vf' ff' a fr => ?_
  have key := c.cells a (c.2.2.1.setF hnd hn (a.is5 fr)) (Or.inl rfl) (fun q q1 q2 q3 q4 _ _ _ _ => Or.inl (fr q q1 q2 q3 q4)) (fun j hj hL q hq hu => by
    try dsimp only at hL hq
    by_cases z : j = k
    · rw [if_pos z] at hq
      exact hU q hq hu
    · rw [if_neg z] at hL hq
      exact (c.2.2.2.2.2.2 q hu).2.2.2 (ccp_F hj hL hq))
  exact K h' key.1.ci key.2 fr
theorem cset_new {h : fs_Hp} {a : Nat} : cset (fs_up h a (.inr (3, [.long 0, .long 0]))) a (fun _ => false) := by
  refine ⟨0, 0, fs_up_self, fun i _ => bt_0 i, fun k _ => ?_⟩
  unfold hs
  split
  · exact (bt_0 k).symm
  · exact (bt_0 (k - 64)).symm
theorem ps_read_le {C : Nat → Nat} {n : Nat} (h0 : ∀ q, n ≤ q → C q = 0) : (ps_read C n).2 ≤ n := by
  unfold ps_read
  refine ps_then_in (ps_logic_le h0 8 0 0 (Nat.zero_le n)) fun v _ => ?_
  split <;> exact ps_logic_le h0 8 0 0 (Nat.zero_le n)
theorem sh_enter (c : CI E U h x A f n er) {y1 y2 : Int32} (hm : 100 ≤ mc) (hs : 300 ≤ ms) (K1 : p_MO_out y1 y2 = 1 → Post (.inr "java/lang/IndexOutOfBoundsException") h) (K2 : ∀ C W : Nat, C < 8 → W < 10 → y1 = nI C → y2 = nI W → (ps_read (pa_n f n) n).1 = none → ∀ h', CI E U h' x A f 0 (nI (ps_read (pa_n f n) n).2) → fU U h h' → Post (.inr "java/lang/IllegalArgumentException") h') (K0 : ∀ C W : Nat, C < 8 → W < 10 → y1 = nI C → y2 = nI W → ∀ L, (ps_read (pa_n f n) n).1 = some L → fok L → ∀ h', CI E U h' x (fun j => if j = W * 8 + C then some (.inr L) else A j) f 0 (-1) → fU U h h' → Post (.inl (some (.int (nI (cnt (rck L)))))) h') : w_SH_enter mc ms E h x y1 y2 Post := by
  obtain ⟨ln, ch, ce, fil, fo, va, re, ga, od, sb, v, cap, t, x2, x3, st, bf, vf, ff, rf, oo, Fs, c⟩ := c
  obtain ⟨b1, b2, b3, b4, b5⟩ := c.1
  obtain ⟨k1, k2, k3, k4, k5⟩ := c.knds
  have n1 : ln ≠ ch := fun z => by rw [z] at k2; omega
  have n2 : x ≠ ch := fun z => by rw [z] at k1; omega
  have n3 : x ≠ ln := fun z => by rw [z] at k1; omega
  have hxn : h x ≠ none := knd_no (by omega)
  have hln : h ln ≠ none := knd_no (by omega)
  refine ⟨1, 6, by omega, by omega, sh_cell (Nat.le_refl 1) (Nat.le_refl 6) K1 fun C W hC hW e1 e2 => fs_ki_of ?_⟩
  refine fs_gr_of b1 rfl ⟨80, 240, by omega, by omega, fs_isc_of b2, cp_read (at0 := 0) (op0 := 0) b2 b3 b4 b5 (Nat.le_refl 80) (Nat.le_refl 240) ⟨fun e0 h1 o' a px => fs_koN ?_, fun L e0 h1 r0 F a px tr hnd hfr => fs_koS ?_⟩⟩
  · have hx1 := (px x n3 hxn).trans b1
    refine fs_gr_of hx1 rfl (fs_pw_of a.1 (Nat.le_of_ble_eq_true rfl) (fs_gr_of (fs_up_at n3 hx1) rfl (fs_gi_of fs_up_self rfl (fs_pw_of (fs_up_at n3 hx1) (Nat.le_of_ble_eq_true rfl) ⟨by omega, by omega, ?_⟩))))
    have key := c.line (h' := fs_up (fs_up h1 ln (.inr (1, [.ref ch, .int (nI 0), .int (nI (ps_read (pa_n f n) n).2), .int (nI o')]))) x (.inr (0, [.ref ln, .ref ce, .ref sb, .int (nI (ps_read (pa_n f n) n).2)]))) (f' := f) (n' := 0) (er' := nI (ps_read (pa_n f n) n).2) (y2 := nI (ps_read (pa_n f n) n).2) (y3 := nI o') fs_up_self (fs_up_at (Ne.symm n3) fs_up_self) (fs_up_at (Ne.symm n2) (fs_up_at (Ne.symm n1) a.2.1)) (Nat.zero_le _) (fun i hi => absurd hi (Nat.not_lt_zero i)) (fun q q1 q2 q3 hq => by rw [fs_up_ne q1, fs_up_ne q2]; exact px q q2 hq)
    exact K2 C W hC hW e1 e2 e0 _ key.1.ci key.2
  · have hx1 := (px x n3 hxn).trans b1
    have hle : (ps_read (pa_n f n) n).2 ≤ n := ps_read_le pa_n0
    have t41 : rp 41 E h1 r0 L F := tr.more _ (by omega)
    refine fs_gr_of hx1 rfl (fs_pw_of a.1 (Nat.le_of_ble_eq_true rfl) (fs_pw_of (fs_up_at n3 hx1) (Nat.le_of_ble_eq_true rfl) (fs_gr_of fs_up_self rfl ?_)))
    have hH : ∃ H, H = fs_up (fs_up h1 ln (.inr (1, [.ref ch, .int (nI 0), .int (nI (ps_read (pa_n f n) n).2), .int (nI 0)]))) x (.inr (0, [.ref ln, .ref ce, .ref sb, .int (-1)])) := ⟨_, rfl⟩
    obtain ⟨H, eH⟩ := hH
    have key := c.line (h' := H) (f' := f) (n' := 0) (er' := -1) (y2 := nI (ps_read (pa_n f n) n).2) (y3 := nI 0) (by rw [eH]; exact fs_up_self) (by rw [eH]; exact fs_up_at (Ne.symm n3) fs_up_self) (by rw [eH]; exact fs_up_at (Ne.symm n2) (fs_up_at (Ne.symm n1) a.2.1)) (Nat.zero_le _) (fun i hi => absurd hi (Nat.not_lt_zero i)) (fun q q1 q2 q3 hq => by rw [eH, fs_up_ne q1, fs_up_ne q2]; exact px q q2 hq)
    obtain ⟨c2, u2⟩ := key
    have tH : rp 41 E H r0 L F := t41.kept 41 fun q hq => by
      have hqn := hfr q hq
      rw [eH, fs_up_ne (show q ≠ x from fun z => hxn (z ▸ hqn)), fs_up_ne (show q ≠ ln from fun z => hln (z ▸ hqn))]
    have goal : fs_isc H ce 2 ∧ (w_CE_setFormula E H ce (nI (W * 8 + C)) r0 (fs_kv (fun h119 => 1 ≤ ((mc - 1) - 80) ∧ 2 ≤ ((ms - 6) - 240) ∧ ∀ a120 : Nat, h119 a120 = none → (fun h121 : fs_Hp => w_CS_init E h121 a120 (fs_kv (fun h122 => w_N_addCells 42 E h122 r0 a120 (fs_kv (fun h123 => fs_isc h123 a120 3 ∧ (w_CS_size E h123 a120 (fs_ki (fun x125 h124 => Post (.inl (some (.int x125))) h124) (fun C_ h_ => Post (.inr C_) h_)))) (fun C_ h_ => Post (.inr C_) h_))) (fun C_ h_ => Post (.inr C_) h_))) (fs_up h119 a120 (.inr (3, [.long 0, .long 0])))) (fun C_ h_ => Post (.inr C_) h_))) := by
      refine ⟨c2.2.1.isc, c2.2.1.isc, ?_⟩
      refine c2.setF (by omega) tH hnd (fun q hq hu => (c.2.2.2.2.2.2 q hu).1 (hfr q hq)) (fun hq => ccp_some c.2.1 (Or.inr (Or.inr (Or.inl rfl))) (hfr fo hq)) (fun q hq j hj _ hL hq2 => absurd (hfr q hq) (ccp_some c.2.1 (ccp_F hj hL hq2))) fun h2 c3 u3 f3 => fs_kv_of (fs_kv_of ⟨by omega, by omega, fun s hs0 => ?_⟩)
      have hfoF : fo ∉ F := fun hq => ccp_some c.2.1 (Or.inr (Or.inr (Or.inl rfl))) (hfr fo hq)
      have t2 : rp 41 E h2 r0 L F := rp.byF c2.2.1 f3 tH hfoF
      have t3 : rp 42 E (fs_up h2 s (.inr (3, [.long 0, .long 0]))) r0 L F := (t2.kept 41 fun q hq => fs_up_ne fun z => t2.some 41 q hq (z ▸ hs0)).more 41 (by omega)
      refine fs_kv_of ?_
      refine cls_addCells 42 t3 cset_new fun h3 cs gg => fs_kv_of ⟨cs.isc, ks_size cs (fs_ki_of ?_)⟩
      have ex : ext h2 h3 := fun q hq => (gg q (fun z => hq (z ▸ hs0))).trans (fs_up_ne fun z => hq (z ▸ hs0))
      have c4 := c3.byX ex
      have ec : cnt (fun k => false || rck L k) = cnt (rck L) := cnt_eq fun i _ => Bool.false_or _
      rw [ec]
      exact K0 C W hC hW e1 e2 L e0 (tr.fok _) h3 c4.1 ((u2.trans u3).trans c4.2)
    rw [eH] at goal
    exact goal
theorem sh_copy (c : CI E U h x A f n er) (hA : shok A) {y1 y2 y3 y4 : Int32} (hm : 300 ≤ mc) (hs : 900 ≤ ms) (K1 : (p_MO_out y1 y2 = 1 ∨ p_MO_out y3 y4 = 1) → Post (.inr "java/lang/IndexOutOfBoundsException") h) (K2 : ∀ C W C' W' : Nat, C < 8 → W < 10 → C' < 8 → W' < 10 → y1 = nI C → y2 = nI W → y3 = nI C' → y4 = nI W' → A (W * 8 + C) = none → Post (.inr "java/util/NoSuchElementException") h) (K0 : ∀ C W C' W' : Nat, C < 8 → W < 10 → C' < 8 → W' < 10 → y1 = nI C → y2 = nI W → y3 = nI C' → y4 = nI W' → A (W * 8 + C) ≠ none → ∀ h', CI E U h' x (copS A (W * 8 + C) (W' * 8 + C') (y3 - y1) (y4 - y2)) f n er → fU U h h' → Post (.inl (some (.int (nI (lsC (mpC (itM (y3 - y1) (y4 - y2)) (A (W * 8 + C)))) - nI (lsC (A (W * 8 + C))))))) h') : w_SH_copy mc ms E h x y1 y2 y3 y4 Post := by
  obtain ⟨ln, ch, ce, fil, fo, va, re, ga, od, sb, v, cap, t, x2, x3, st, bf, vf, ff, rf, oo, Fs, c⟩ := c
  refine ⟨1, 6, by omega, by omega, sh_cell (Nat.le_refl 1) (Nat.le_refl 6) (fun e => K1 (Or.inr e)) fun C' W' hC' hW' e3 e4 => fs_ki_of ?_⟩
  refine ⟨2, 12, by omega, by omega, fs_isc_of c.1.1, sh_fcell c (Nat.le_refl 2) (Nat.le_refl 12) (fun e => K1 (Or.inl e)) (fun C W hC hW e1 e2 => K2 C W C' W' hC hW hC' hW' e1 e2 e3 e4) fun C W hC hW e1 e2 hne => fs_ki_of ?_⟩
  have hk : W * 8 + C < 80 := by omega
  have hk' : W' * 8 + C' < 80 := by omega
  have kin : vp_in (nI (W * 8 + C)) 80 := nI_in hk (by omega)
  have K9 := K0 C W C' W' hC hW hC' hW' e1 e2 e3 e4 hne
  refine fs_gr_of c.1.1 rfl (fs_gr_of c.2.1.1.1.1 rfl (fs_aq_of c.2.1.1.2.2.1 kin ?_))
  rw [nI_clamp (by omega)]
  match e : A (W * 8 + C) with
  | none => exact absurd e hne
  | some (.inl d) =>
    rw [(c.2.1.2.1 _ hk).2 (fun L z => by rw [e] at z; cases z)]
    try dsimp only
    refine fs_gr_of c.1.1 rfl (fs_gr_of c.1.1 rfl (fs_gr_of c.2.1.1.1.1 rfl (fs_ad_of c.2.1.1.1.2.2.1 kin ⟨c.2.1.isc, c.2.1.isc, ?_⟩)))
    rw [nI_clamp (by omega), ((c.2.1.2.2.2.2.1 _ hk).2.1 d e).2]
    have hnn : nn d := ((hA _ hk).1 d e).nn
    refine c.setN hk' (y := some (.inl d)) (Or.inr ⟨rfl, rfl, hnn⟩) fun h' a b => fs_kv_of (fs_kv_of ?_)
    have := K9 h' (by
      unfold copS
      rw [e]
      exact a) b
    rw [e] at this
    have z0 : nI (lsC (mpC (itM (y3 - y1) (y4 - y2)) (some (.inl d)))) - nI (lsC (some (.inl d))) = 0 := by
      show nI 0 - nI 0 = 0
      decide
    rw [z0] at this
    exact this
  | some (.inr L) =>
    obtain ⟨r0, r1, r2⟩ := (c.2.1.2.1 _ hk).1 L e
    obtain ⟨hfk, hlen, _⟩ := (hA _ hk).2 L e
    rw [r1]
    try dsimp only
    refine ⟨240, 800, by omega, by omega, ?_⟩
    refine cls_moved (y3 - y1) (y4 - y2) E 41 42 (by decide) r2 (c.2.2.1.1 _ hk L e) (by omega) (by omega) fun h1 r' F' t1 ex mv => fs_kr_of ?_
    obtain ⟨c1, u1⟩ := c.byX ex
    have hfo : fo ∉ Fs (W * 8 + C) := c.2.1.2.2.2.2.2 _ hk L e
    have hcc : ∀ q, q ∈ Fs (W * 8 + C) → ccp ce fil fo va re ga od rf A Fs q := fun q hq => ccp_F hk ⟨L, e⟩ hq
    have hfo' : fo ∉ F' := fun hq => by
      rcases mv.2 fo hq with z | ⟨z, _⟩
      · exact ccp_some c.2.1 (Or.inr (Or.inr (Or.inl rfl))) z
      · exact hfo z
    refine fs_gr_of c1.1.1 rfl ⟨c1.2.1.isc, c1.2.1.isc, ?_⟩
    refine c1.setF hk' t1 mv.1 (fun q hq hu => ?_) hfo' (fun q hq j hj _ hL hq2 fs => ?_) fun h2 c2 u2 f2 => fs_kv_of (fs_kv_of ?_)
    · rcases mv.2 q hq with z | ⟨z, _⟩
      · exact (c.2.2.2.2.2.2 q hu).1 z
      · exact (c.2.2.2.2.2.2 q hu).2.2.2 (hcc q z)
    · have hqn : h q ≠ none := ccp_some c.2.1 (ccp_F hj hL hq2)
      rw [ex q hqn]
      rcases mv.2 q hq with z | ⟨_, z⟩
      · exact absurd z hqn
      · exact z fs
    · have s0 : rp 41 E h1 r0 L (Fs (W * 8 + C)) := r2.kept 41 fun q hq => ex q (r2.some 41 q hq)
      have s1 : rp 41 E h2 r0 L (Fs (W * 8 + C)) := rp.byF c1.2.1 f2 s0 hfo
      have s2 : rp 41 E h2 r' (L.map (itM (y3 - y1) (y4 - y2))) F' := rp.byF c1.2.1 f2 t1 hfo'
      refine cls_lost 41 s2 (fs_ki_of (cls_lost 41 s1 (fs_ki_of ?_)))
      have := K9 h2 (by
        unfold copS
        rw [e]
        exact c2) (u1.trans u2)
      rw [e] at this
      exact this
end
