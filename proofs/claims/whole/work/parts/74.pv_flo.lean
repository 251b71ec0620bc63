/-! Pure: numbers that are not too great. -/
def nb (d : UInt64) : Prop := d.toNat % 2 ^ 63 ≤ 4832362400168542208
def nn (d : UInt64) : Prop := FP.Core.val64 d ≠ .nan
theorem nb.nn {d : UInt64} (h : nb d) : nn d := (FP.Core.ne_nan d).mpr (by have h' : d.toNat % 2 ^ 63 ≤ 4832362400168542208 := h; omega)
theorem nb.fin {d : UInt64} (h : nb d) : FP.Core.DFin d := (FP.Core.fin_bits d).mpr (by have h' : d.toNat % 2 ^ 63 ≤ 4832362400168542208 := h; omega)
theorem nn_n64 {d : UInt64} (h : nn d) : vf_n64 d := by
  unfold vf_n64
  rw [UInt64.le_iff_toNat_le, FP.Core.mask_toNat]
  exact (FP.Core.ne_nan d).mp h
theorem cmpV_lt_ (o : CmpOp) : Op.cmpValue (some Ordering.lt) o = -1 := rfl
theorem cmpV_eq_ (o : CmpOp) : Op.cmpValue (some Ordering.eq) o = 0 := rfl
theorem cmpV_gt_ (o : CmpOp) : Op.cmpValue (some Ordering.gt) o = 1 := rfl
theorem cmpV_gt (a b : Int) (o : CmpOp) : 0 < Op.cmpValue (some (compare a b)) o ↔ b < a := by
  rcases h : compare a b with _ | _ | _
  · have := (FP.Core.compare_lt_iff a b).mp h
    rw [cmpV_lt_]
    exact ⟨fun z => absurd z (by decide), fun z => by omega⟩
  · have := (FP.Core.compare_eq_iff a b).mp h
    rw [cmpV_eq_]
    exact ⟨fun z => absurd z (by decide), fun z => by omega⟩
  · have := (FP.Core.compare_gt_iff a b).mp h
    rw [cmpV_gt_]
    exact ⟨fun _ => this, fun _ => by decide⟩
theorem cmpV_ge (a b : Int) (o : CmpOp) : 0 ≤ Op.cmpValue (some (compare a b)) o ↔ b ≤ a := by
  rcases h : compare a b with _ | _ | _
  · have := (FP.Core.compare_lt_iff a b).mp h
    rw [cmpV_lt_]
    exact ⟨fun z => absurd z (by decide), fun z => by omega⟩
  · have := (FP.Core.compare_eq_iff a b).mp h
    rw [cmpV_eq_]
    exact ⟨fun z => by omega, fun z => by decide⟩
  · have := (FP.Core.compare_gt_iff a b).mp h
    rw [cmpV_gt_]
    exact ⟨fun _ => by omega, fun _ => by decide⟩
theorem dkey_K : FP.Core.dkey 4832362400168542208 = 4832362400168542208 := by decide +kernel
theorem dkey_K' : FP.Core.dkey 14055734437023318016 = -4832362400168542208 := by decide +kernel
theorem nn_K : nn 4832362400168542208 := nb.nn (by unfold nb; decide +kernel)
theorem nn_K' : nn 14055734437023318016 := nb.nn (by unfold nb; decide +kernel)
theorem nb_key (d : UInt64) : nb d ↔ -4832362400168542208 ≤ FP.Core.dkey d ∧ FP.Core.dkey d ≤ 4832362400168542208 := by
  unfold nb FP.Core.dkey
  have := d.toNat_lt
  by_cases h : 2 ^ 63 ≤ d.toNat
  · rw [if_pos h]
    constructor
    · intro z; omega
    · intro z; omega
  · rw [if_neg h]
    constructor
    · intro z; omega
    · intro z; omega
theorem tg_of {d : UInt64} (h : nn d) [Decidable (nb d)] : p_MO_tooGreat d = if nb d then 0 else 1 := by
  unfold p_MO_tooGreat
  have e1 : FP.dcmp d 4832362400168542208 = _ := FP.Core.dcmp_key h nn_K
  have e2 : FP.dcmp d 14055734437023318016 = _ := FP.Core.dcmp_key h nn_K'
  rw [dkey_K] at e1
  rw [dkey_K'] at e2
  rw [e1, e2]
  have k := nb_key d
  by_cases h1 : (4832362400168542208 : Int) < FP.Core.dkey d
  · rw [if_pos ((cmpV_gt _ _ _).mpr h1), if_neg (fun z => by have := k.mp z; omega)]
  · rw [if_neg (fun z => h1 ((cmpV_gt _ _ _).mp z))]
    by_cases h2 : -4832362400168542208 ≤ FP.Core.dkey d
    · rw [if_pos ((cmpV_ge _ _ _).mpr h2), if_pos (k.mpr ⟨h2, by omega⟩)]
    · rw [if_neg (fun z => h2 ((cmpV_ge _ _ _).mp z)), if_neg (fun z => h2 (k.mp z).1)]
theorem tg_ok {d : UInt64} (h : nb d) : p_MO_tooGreat d = 0 := by
  haveI := Classical.propDecidable (nb d)
  rw [tg_of h.nn, if_pos h]
theorem tg_bad {d : UInt64} (h : nn d) (hb : ¬ nb d) : p_MO_tooGreat d = 1 := by
  haveI := Classical.propDecidable (nb d)
  rw [tg_of h, if_neg hb]
theorem isBad_ok {E : fs_E} {h : fs_Hp} {d : UInt64} {Post : fs_Ps} (hd : nb d) (k : Post (.inl (some (.int 0))) h) : w_SH_isBad E h d Post := by
  have e := tg_ok hd
  unfold p_MO_tooGreat at e
  unfold w_SH_isBad
  split at e
  · exact absurd e (by decide)
  · next h1 =>
    rw [if_neg h1]
    split at e
    · next h2 => rw [if_pos h2]; exact k
    · exact absurd e (by decide)
theorem isBad_bad {E : fs_E} {h : fs_Hp} {d : UInt64} {Post : fs_Ps} (hd : nn d) (hb : ¬ nb d) (k : Post (.inl (some (.int 1))) h) : w_SH_isBad E h d Post := by
  have e := tg_bad hd hb
  unfold p_MO_tooGreat at e
  unfold w_SH_isBad
  split at e
  · next h1 => rw [if_pos h1]; exact k
  · next h1 =>
    rw [if_neg h1]
    split at e
    · exact absurd e (by decide)
    · next h2 => rw [if_neg h2]; exact k
theorem nb_neg {d : UInt64} (h : nb d) : nb (FP.dneg d) := by
  have hx : (FP.dneg d).toNat = d.toNat ^^^ 2 ^ 63 := by
    unfold FP.dneg
    rw [UInt64.toNat_xor]
    rfl
  unfold nb
  rw [hx, Nat.xor_mod_two_pow, Nat.mod_self, Nat.xor_zero]
  exact h
theorem nn_of {d : UInt64} (h : FP.Core.dIsNaN d = false) : nn d := (FP.Core.notNaN_iff d).mp h
theorem nn_to {d : UInt64} (h : nn d) : FP.Core.dIsNaN d = false := (FP.Core.notNaN_iff d).mpr h
theorem nn_add {a b : UInt64} (ha : nb a) (hb : nb b) : nn (FP.dadd a b) := nn_of (FP.Core.dadd_out (nn_to ha.nn) hb.fin)
theorem nn_sub {a b : UInt64} (ha : nb a) (hb : nb b) : nn (FP.dsub a b) := nn_of (FP.Core.dsub_out (nn_to ha.nn) hb.fin)
theorem nn_mul {a b : UInt64} (ha : nb a) (hb : nb b) : nn (FP.dmul a b) := nn_of (FP.Core.dmul_out ha.fin hb.fin)
theorem cmpV_eq (a b : Int) (o : CmpOp) : Op.cmpValue (some (compare a b)) o = 0 ↔ a = b := by
  rcases h : compare a b with _ | _ | _
  · have := (FP.Core.compare_lt_iff a b).mp h
    rw [cmpV_lt_]
    exact ⟨fun z => absurd z (by decide), fun z => by omega⟩
  · have := (FP.Core.compare_eq_iff a b).mp h
    rw [cmpV_eq_]
    exact ⟨fun _ => this, fun _ => rfl⟩
  · have := (FP.Core.compare_gt_iff a b).mp h
    rw [cmpV_gt_]
    exact ⟨fun z => absurd z (by decide), fun z => by omega⟩
theorem nb_0 : nb FP.dconst0 := by unfold nb; decide +kernel
theorem nb_1 : nb FP.dconst1 := by unfold nb; decide +kernel
theorem nn_div {a b : UInt64} (ha : nb a) (hb : nb b) (hz : ¬ Op.cmpValue (FP.dcmp b FP.dconst0) .l = 0) : nn (FP.ddiv a b) := by
  refine nn_of (FP.Core.ddiv_out (nn_to ha.nn) hb.fin fun z => hz ?_)
  have := FP.Core.zero_iff.mpr z
  show Op.cmpValue (FP.Core.dcmp b 0) .l = 0
  rw [this]
  rfl
theorem nn_bad : nn 4836865999795912704 := (FP.Core.ne_nan _).mpr (by decide +kernel)
theorem nb_bad : ¬ nb 4836865999795912704 := by unfold nb; decide +kernel
theorem nb_i2d {n : Nat} (h : n ≤ 1000) : nb (FP.i2d (nI n)) := by
  have := FP.Core.fromInt_mag (FP.Core.toNat_i2d (nI n)) (j := 10) (K := 1033) (by rw [nI_toInt (by omega)]; omega) (by omega) (by omega)
  unfold nb
  show (FP.Core.i2d (nI n)).toNat % 2 ^ 63 ≤ _
  omega
/-- a quotient by something of 1 at least is no greater -/
theorem div_le {a b : UInt64} (ha : FP.Core.DFin a) (h1 : 1023 * 2 ^ 52 ≤ b.toNat % 2 ^ 63) (h2 : b.toNat % 2 ^ 63 < 2047 * 2 ^ 52) : (FP.ddiv a b).toNat % 2 ^ 63 ≤ a.toNat % 2 ^ 63 := by
  have e0 : (FP.ddiv a b).toNat = FP.Core.div FP.Core.b64 a.toNat b.toNat := FP.Core.toNat_of64 (FP.Core.quotient_fits FP.Core.good_b64 _ _)
  have hxf : FP.Core.mag FP.Core.b64 a.toNat < FP.Core.infBits FP.Core.b64 := by
    rw [FP.Core.mag_toNat64, FP.Core.infBits_b64]
    exact (FP.Core.fin_bits a).mp ha
  have hyf : FP.Core.mag FP.Core.b64 b.toNat < FP.Core.infBits FP.Core.b64 := by
    rw [FP.Core.mag_toNat64, FP.Core.infBits_b64]
    omega
  obtain ⟨s, c, q, x1, x2, x3⟩ := FP.Core.fin_of_mag FP.Core.good_b64 hxf
  obtain ⟨t, d, r, y1, y2, y3⟩ := FP.Core.fin_of_mag FP.Core.good_b64 hyf
  have l2 : FP.Core.b64.tails * 2 ^ (1023 - 1) ≤ FP.Core.zmag FP.Core.b64 (.fin t d r) := by
    rw [y3, ← FP.Core.unitsOf_start (by omega)]
    refine FP.Core.unitsOf_le_iff.mpr ?_
    rw [FP.Core.mag_toNat64, FP.Core.tails_b64]
    exact h1
  have hd0 : d ≠ 0 := by
    rintro rfl
    have h3 : FP.Core.zmag FP.Core.b64 (.fin t 0 r) = 0 := Nat.zero_mul _
    have := Nat.mul_pos (FP.Core.tails_pos FP.Core.b64) (Nat.two_pow_pos (1023 - 1))
    omega
  have hd : FP.Core.decode FP.Core.b64 (FP.Core.div FP.Core.b64 a.toNat b.toNat) = FP.Core.roundRatio FP.Core.b64 (s != t) c d (q - r) := by
    unfold FP.Core.div
    rw [FP.Core.decode_enc FP.Core.good_b64 (FP.Core.quotient_fits FP.Core.good_b64 _ _), x1, y1]
    simp only [FP.Core.quotient, if_neg hd0]
  have hx1 := x2.2.1
  have hy1 := y2.2.1
  have hq := FP.Core.qmin_neg FP.Core.good_b64
  have key := FP.Core.mag_le FP.Core.good_b64 (m := FP.Core.mag FP.Core.b64 a.toNat) hd (by omega) (e0 := 2 * FP.Core.b64.qmin - r) (by omega) (by omega) (by
    have e1 : FP.Core.inUnits c (q - r) (2 * FP.Core.b64.qmin - r) = FP.Core.zmag FP.Core.b64 (.fin s c q) * 2 ^ (-FP.Core.b64.qmin).toNat := by
      show c * _ = c * _ * _
      rw [Nat.mul_assoc, ← Nat.pow_add]
      congr 2
      omega
    have e2 : 2 ^ (FP.Core.b64.qmin - (2 * FP.Core.b64.qmin - r)).toNat * d = FP.Core.zmag FP.Core.b64 (.fin t d r) := by
      show _ = d * _
      rw [Nat.mul_comm]
      congr 2
      omega
    rw [e1, Nat.mul_assoc, e2, x3]
    refine Nat.mul_le_mul_left _ ?_
    refine Nat.le_trans (Nat.le_of_eq ?_) l2
    rw [FP.Core.tails_b64, FP.Core.qmin_b64, ← Nat.pow_add]
    rfl)
  rw [← e0, FP.Core.mag_toNat64, FP.Core.mag_toNat64] at key
  exact key
theorem nb_avg {a : UInt64} {n : Nat} (ha : nb a) (h0 : 0 < n) (h : n ≤ 1000) : nb (FP.ddiv a (FP.i2d (nI n))) := by
  have hb := FP.Core.i2d_big (v := nI n) (by rw [nI_toInt (by omega)]; omega)
  have := div_le ha.fin hb.1 hb.2
  exact Nat.le_trans this ha
theorem nb_num {d b : Nat} (hd : d < 10000000000000) (h0 : 0 < b) (hb : b < 2 ^ 31) : nb (FP.ddiv (FP.l2d (lN d)) (FP.l2d (lN b))) := by
  have hd' : (lN d).toInt = (d : Int) := lg_ofNat_toInt (by omega)
  have h1 := FP.Core.fromInt_mag (FP.Core.toNat_l2d (lN d)) (j := 44) (K := 1067) (by rw [hd']; omega) (by omega) (by omega)
  have hB := FP.Core.l2d_big (v := lN b) (by rw [lN_toInt hb]; omega)
  have : (FP.ddiv (FP.l2d (lN d)) (FP.l2d (lN b))).toNat % 2 ^ 63 ≤ (FP.l2d (lN d)).toNat % 2 ^ 63 := div_le (FP.Core.l2d_fin (lN d)) hB.1 hB.2
  unfold nb
  have h1' : (FP.l2d (lN d)).toNat % 2 ^ 63 ≤ 1067 * 2 ^ 52 := h1
  omega
theorem zval_K : FP.Core.zval FP.Core.b64 (FP.Core.val64 4832362400168542208) = ((1125899906842624 : Nat) : Int) * (FP.Core.one64 : Int) := by decide +kernel
theorem zval_K' : FP.Core.zval FP.Core.b64 (FP.Core.val64 14055734437023318016) = -(((1125899906842624 : Nat) : Int) * (FP.Core.one64 : Int)) := by decide +kernel
theorem zk_le {a b : UInt64} (ha : nn a) (hb : nn b) : FP.Core.zval FP.Core.b64 (FP.Core.val64 a) ≤ FP.Core.zval FP.Core.b64 (FP.Core.val64 b) ↔ FP.Core.dkey a ≤ FP.Core.dkey b := by
  have e1 := FP.Core.dcmp_key ha hb
  rw [FP.Core.dcmp_zval ha hb, Option.some.injEq] at e1
  constructor
  · intro z
    refine Int.not_lt.mp fun y => ?_
    rw [(FP.Core.compare_gt_iff _ _).mpr y, FP.Core.compare_gt_iff] at e1
    omega
  · intro z
    refine Int.not_lt.mp fun y => ?_
    rw [(FP.Core.compare_gt_iff _ _).mpr y] at e1
    have := (FP.Core.compare_gt_iff _ _).mp e1.symm
    omega
theorem nb_trunc {d : UInt64} (h : nb d) : nb (FP.l2d (FP.d2l d)) := by
  have hk := (nb_key d).mp h
  have z1 := (zk_le h.nn nn_K).mpr (by rw [dkey_K]; exact hk.2)
  have z2 := (zk_le nn_K' h.nn).mpr (by rw [dkey_K']; exact hk.1)
  rw [zval_K] at z1
  rw [zval_K'] at z2
  have hv := FP.Core.d2l_val h.nn
  have hp := FP.Core.one64_pos
  have hm : FP.Core.zmag FP.Core.b64 (FP.Core.val64 d) / FP.Core.one64 ≤ 1125899906842624 := by
    refine Nat.le_of_lt_succ ((Nat.div_lt_iff_lt_mul hp).mpr ?_)
    have hz : FP.Core.zval FP.Core.b64 (FP.Core.val64 d) = FP.Core.signed (FP.Core.sgn (FP.Core.val64 d)) (FP.Core.zmag FP.Core.b64 (FP.Core.val64 d)) := rfl
    rw [hz] at z1 z2
    have : FP.Core.zmag FP.Core.b64 (FP.Core.val64 d) ≤ 1125899906842624 * FP.Core.one64 := by
      cases hs : FP.Core.sgn (FP.Core.val64 d)
      · rw [hs] at z1
        simp only [FP.Core.signed] at z1
        have z1' : ((FP.Core.zmag FP.Core.b64 (FP.Core.val64 d) : Nat) : Int) ≤ ((1125899906842624 : Nat) : Int) * (FP.Core.one64 : Int) := by simpa using z1
        exact_mod_cast z1'
      · rw [hs] at z2
        simp only [FP.Core.signed] at z2
        have z2' : ((FP.Core.zmag FP.Core.b64 (FP.Core.val64 d) : Nat) : Int) ≤ ((1125899906842624 : Nat) : Int) * (FP.Core.one64 : Int) := by simp at z2; omega
        exact_mod_cast z2'
    refine Nat.lt_of_le_of_lt this ?_
    exact Nat.mul_lt_mul_of_pos_right (by omega) hp
  have hi : -1125899906842624 ≤ (FP.Core.d2l d).toInt ∧ (FP.Core.d2l d).toInt ≤ 1125899906842624 := by
    rw [hv]
    generalize FP.Core.zmag FP.Core.b64 (FP.Core.val64 d) / FP.Core.one64 = m at hm
    cases FP.Core.sgn (FP.Core.val64 d)
    · simp only [FP.Core.signed]
      simp
      omega
    · simp only [FP.Core.signed]
      simp
      omega
  have hn : nn (FP.l2d (FP.d2l d)) := by
    obtain ⟨s, c, q, e⟩ := FP.Core.l2d_fin (FP.d2l d)
    show FP.Core.val64 _ ≠ _
    rw [e]
    exact FP.Core.Datum.noConfusion
  have u1 := FP.Core.l2d_zval_le (n := FP.d2l d) nn_K (by
    rw [zval_K]
    exact Int.mul_le_mul_of_nonneg_right hi.2 (Int.natCast_nonneg _))
  have u2 := FP.Core.l2d_zval_ge (n := FP.d2l d) nn_K' (by
    rw [zval_K', ← Int.neg_mul]
    exact Int.mul_le_mul_of_nonneg_right hi.1 (Int.natCast_nonneg _))
  have v1 := (zk_le hn nn_K).mp u1
  have v2 := (zk_le nn_K' hn).mp u2
  rw [dkey_K] at v1
  rw [dkey_K'] at v2
  exact (nb_key _).mpr ⟨v2, v1⟩
/-- the reference's unit -/
def pw10 : Nat → UInt64
  | 0 => FP.dconst1
  | k + 1 => FP.dmul (pw10 k) 4621819117588971520
theorem pw10_eq : ∀ k, k ≤ 4 → pw10 k = FP.l2d (lN (10 ^ k)) := by decide +kernel
theorem pw10_nn : ∀ k, k ≤ 4 → (pw10 k).toNat % 2 ^ 63 ≤ 9218868437227405312 := by decide +kernel
