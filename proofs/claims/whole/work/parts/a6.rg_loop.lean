/-! Pure: the law's loop. -/
theorem nb_any (w : Int32) : nb (FP.i2d w) := by
  unfold nb
  have := FP.Core.i2d_mag w
  show (FP.Core.i2d w).toNat % 2 ^ 63 ≤ _
  omega
theorem nb_8th : nb 4593671619917905920 := by
  unfold nb
  decide
theorem shok_copS {A : Shh} (hA : shok A) {k : Nat} (hk : k < 80) (k' : Nat) (dx dy : Int32) : shok (copS A k k' dx dy) := by
  have hm := shok_mp hA (g := itM dx dy) (fun L hL => fok_M hL) (fun L hL => txk_sh _ _ hL) k hk
  intro j hj
  unfold copS
  try dsimp only
  by_cases z : j = k'
  · rw [if_pos z]
    exact hm
  · rw [if_neg z]
    exact hA j hj
theorem lw_end {L z : Nat} (hL : L ≤ 2560) (hz : z ≤ 2600) : ((Int32.ofNat L) - 5 < nI z) ↔ L < z + 5 := by
  have e : ((Int32.ofNat L) - 5 : Int32).toInt = (L : Int) - 5 := by
    by_cases h5 : 5 ≤ L
    · have : ((Int32.ofNat L) - 5 : Int32) = nI (L - 5) := nI_sub (b := 5) h5
      rw [this, nI_toInt (by omega)]
      omega
    · have : ((Int32.ofNat L) - 5 : Int32).toInt = (L : Int) - (5 : Nat) := nI_neg (a := L) (b := 5) (by omega) (by decide)
      rw [this]
      omega
  rw [Int32.lt_iff_toInt_lt, e, nI_toInt (by omega)]
  omega
section
variable {E : fs_E} {ad : Nat → Nat} {z1 z2 z3 z4 : Nat} {K : Nat → Nat → fs_Hp → Prop} {Post : fs_Ps} {L : Nat} {xs : Nat → Int32}
/-- what the loop goes on with -/
def LN (E : fs_E) (ad : Nat → Nat) (z1 z2 z3 z4 : Nat) (N : fs_Hp → Prop) : Prop := ∀ (h' : fs_Hp) (A' : Shh) (f' : Nat → Int32) (n' : Nat) (er' : Int32) (M' : mo_S) (g3' : Nat → Int64) (g4' : Nat → UInt64), shok A' → MoQ M' A' f' n' er' → LI E ad z1 z2 z3 z4 h' A' f' n' er' M' g3' g4' → N h'
theorem ne_k {k : Int32} {P : Prop} (h : ¬ k = 0) : k = 0 → P := fun z => absurd z h
set_option maxHeartbeats 4000000 in
theorem lw_step (hE : fs_In E) {z m : Nat} {bc bs : Nat} (hz : z + 5 ≤ L) (hL : L ≤ 2560) (hbc : 1000 ≤ bc) (hbs : 14000 ≤ bs) {h : fs_Hp} {A : Shh} {f : Nat → Int32} {n : Nat} {er : Int32} {M : mo_S} {g3 : Nat → Int64} {g4 : Nat → UInt64} (hA : shok A) (q : MoQ M A f n er) (a : LI E ad z1 z2 z3 z4 h A f n er M g3 g4) (next1 : LN E ad z1 z2 z3 z4 (fun h' => (w_LW_law_L28 L xs E K Post m) z1 z2 z3 z4 (nI z + 5) (bc - 1000) (bs - 14000) h')) (next2 : LN E ad z1 z2 z3 z4 (fun h' => (w_LW_law_L28 L xs E K Post m) z1 z2 z3 z4 (nI z + 5) bc bs h')) : w_LW_law_L28 L xs E K Post (m + 1) z1 z2 z3 z4 (nI z) bc bs h := by
  have q9 := q.2.2.2.2.2.2.1
  have q40 := q.2.2.2.2.2.2.2.1
  have qsz := q.2.2.1
  have v0 : vp_in (nI z) L := nI_in (by omega) (by omega)
  have v1 : vp_in (nI z + 1) L := by rw [nI_1]; exact nI_in (by omega) (by omega)
  have v2 : vp_in (nI z + 2) L := by rw [show (nI z + 2 : Int32) = nI (z + 2) from nI_add z 2]; exact nI_in (by omega) (by omega)
  have v3 : vp_in (nI z + 3) L := by rw [show (nI z + 3 : Int32) = nI (z + 3) from nI_add z 3]; exact nI_in (by omega) (by omega)
  have v4 : vp_in (nI z + 4) L := by rw [show (nI z + 4 : Int32) = nI (z + 4) from nI_add z 4]; exact nI_in (by omega) (by omega)
  have n10 : ¬ (1 : Int32) = 0 := by decide
  have n20 : ¬ (2 : Int32) = 0 := by decide
  have n30 : ¬ (3 : Int32) = 0 := by decide
  have n40 : ¬ (4 : Int32) = 0 := by decide
  rw [w_LW_law_L28]
  try dsimp only
  rw [if_neg (fun w => by have := (lw_end hL (by omega)).mp w; omega)]
  refine ⟨v0, ?_⟩
  by_cases o0 : ((xs (Int32.toNatClampNeg (nI z))) &&& (15 : Int32)) = 0
  · rw [if_pos o0]
    generalize xs (Int32.toNatClampNeg (nI z + 1)) = y1
    refine ⟨v1, 1000, 14000, hbc, hbs, lk_type a (fun hy => ?_) (fun k h1 h2 h3 => ?_) (fun k h1 h2 h3 h' g b e => ?_)⟩
    · obtain ⟨r1, r2⟩ := mq_type1 q hy
      exact fs_ki_of ⟨v1, a.is10, mc_type q9 q40 a fun _ a2 => fs_ki_of (tl3 a2 r2 (ne_k n10) fun h3 a3 => next1 h3 _ _ _ _ _ _ _ hA r1 a3)⟩
    · subst h2
      obtain ⟨r1, r2⟩ := mq_type2 q h1 h3
      exact fs_ki_of ⟨v1, a.is10, mc_type q9 q40 a fun _ a2 => fs_ki_of (tl3 a2 r2 (ne_k n20) fun h3 a3 => next1 h3 _ _ _ _ _ _ _ hA r1 a3)⟩
    · subst h2
      obtain ⟨r1, r2, r3⟩ := mq_type0 q h1 h3
      exact fs_ki_of ⟨v1, b.is10, mc_type q9 q40 b fun _ a2 => fs_ki_of (tl3 a2 r2 (fun _ => by rw [r3]; exact e) fun h3 a3 => next1 h3 _ _ _ _ _ _ _ hA r1 a3)⟩
  rw [if_neg o0]
  by_cases o1 : ((xs (Int32.toNatClampNeg (nI z))) &&& (15 : Int32)) = 1
  · rw [if_pos o1]
    generalize xs (Int32.toNatClampNeg (nI z + 1)) = y1
    generalize xs (Int32.toNatClampNeg (nI z + 2)) = y2
    refine ⟨v1, v2, 1000, 14000, hbc, hbs, lk_enter a (fun e => ?_) (fun C W hC hW e1 e2 e3 h1 b => ?_) (fun C W hC hW e1 e2 Lf e3 e4 h1 g b eg => ?_)⟩
    · obtain ⟨r, r1, r2, r3⟩ := mq_enter1 q e
      exact fs_ki_of ⟨v1, v2, a.is10, mc_enter r1 a fun _ a2 => fs_ki_of (tl3 a2 r3 (ne_k n10) fun h3 a3 => next1 h3 _ _ _ _ _ _ _ hA r2 a3)⟩
    · subst e1
      subst e2
      obtain ⟨r, r1, r2, r3⟩ := mq_enter2 q hC hW e3
      exact fs_ki_of ⟨v1, v2, b.is10, mc_enter r1 b fun _ a2 => fs_ki_of (tl3 a2 r3 (ne_k n20) fun h3 a3 => next1 h3 _ _ _ _ _ _ _ hA r2 a3)⟩
    · subst e1
      subst e2
      obtain ⟨hs', r, r1, r2, r3, r4⟩ := mq_enter0 q hA hC hW e3 e4
      exact fs_ki_of ⟨v1, v2, b.is10, mc_enter r1 b fun _ a2 => fs_ki_of (tl3 a2 r3 (fun _ => by rw [r4]; exact eg) fun h3 a3 => next1 h3 _ _ _ _ _ _ _ hs' r2 a3)⟩
  rw [if_neg o1]
  by_cases o2 : ((xs (Int32.toNatClampNeg (nI z))) &&& (15 : Int32)) = 2
  · rw [if_pos o2]
    refine ⟨a.1.isc, sh_errorAt a.1 (fs_ki_of ⟨a.is10, mc_errorAt a fun h2 a2 => fs_ki_of ?_⟩)⟩
    rw [if_pos (show er = (p_MO_errorAt M).1 from ((mo_f_ne (k := 11) (j := 10) M 0 (by decide)).trans q.2.2.2.2.1).symm)]
    exact next2 h2 _ _ _ _ _ _ _ hA (q.f11 0) a2
  rw [if_neg o2]
  by_cases o3 : ((xs (Int32.toNatClampNeg (nI z))) &&& (15 : Int32)) = 3
  · rw [if_pos o3]
    generalize xs (Int32.toNatClampNeg (nI z + 1)) = y1
    generalize xs (Int32.toNatClampNeg (nI z + 2)) = y2
    have hd : nn (FP.dmul (FP.i2d (xs (Int32.toNatClampNeg (nI z + 3)))) 4593671619917905920) := nn_mul (nb_any _) nb_8th
    generalize FP.dmul (FP.i2d (xs (Int32.toNatClampNeg (nI z + 3)))) 4593671619917905920 = d at hd ⊢
    have hdn := nn_n64 hd
    refine ⟨v1, v2, v3, hdn, 1000, 14000, hbc, hbs, lk_put a hd (fun e => ?_) (fun C W hC hW e1 e2 e3 => ?_) (fun C W hC hW e1 e2 e3 h1 b => ?_)⟩
    · obtain ⟨r1, r2⟩ := mq_put1 (d := d) q e
      exact fs_ki_of ⟨v1, v2, v3, hdn, a.is10, mc_put a fun _ a2 => fs_kv_of (tl0 a2 r2 fun h3 a3 => next1 h3 _ _ _ _ _ _ _ hA r1 a3)⟩
    · subst e1
      subst e2
      obtain ⟨r1, r2⟩ := mq_put2 q hC hW hd e3
      exact fs_ki_of ⟨v1, v2, v3, hdn, a.is10, mc_put a fun _ a2 => fs_kv_of (tl0 a2 r2 fun h3 a3 => next1 h3 _ _ _ _ _ _ _ hA r1 a3)⟩
    · subst e1
      subst e2
      obtain ⟨r1, r2⟩ := mq_put0 q hC hW e3
      have hs' := shok_num hA (x := some (.inl d)) (fun L w => by cases w) (fun d' w => by cases w; exact e3) (W * 8 + C)
      exact fs_ki_of ⟨v1, v2, v3, hdn, b.is10, mc_put b fun _ a2 => fs_kv_of (tl0 a2 r2 fun h3 a3 => next1 h3 _ _ _ _ _ _ _ hs' r1 a3)⟩
  rw [if_neg o3]
  by_cases o4 : ((xs (Int32.toNatClampNeg (nI z))) &&& (15 : Int32)) = 4
  · rw [if_pos o4]
    generalize xs (Int32.toNatClampNeg (nI z + 1)) = y1
    generalize xs (Int32.toNatClampNeg (nI z + 2)) = y2
    refine ⟨v1, v2, 1000, 14000, hbc, hbs, lk_erase a (fun e => ?_) (fun C W hC hW e1 e2 e3 => ?_) (fun C W hC hW e1 e2 e3 h1 b => ?_)⟩
    · obtain ⟨r1, r2⟩ := mq_erase1 q e
      exact fs_ki_of ⟨v1, v2, a.is10, mc_erase a fun _ a2 => fs_kv_of (tl0 a2 r2 fun h3 a3 => next1 h3 _ _ _ _ _ _ _ hA r1 a3)⟩
    · subst e1
      subst e2
      obtain ⟨r1, r2⟩ := mq_erase2 q hC hW e3
      exact fs_ki_of ⟨v1, v2, a.is10, mc_erase a fun _ a2 => fs_kv_of (tl0 a2 r2 fun h3 a3 => next1 h3 _ _ _ _ _ _ _ hA r1 a3)⟩
    · subst e1
      subst e2
      obtain ⟨r1, r2⟩ := mq_erase0 q hC hW e3
      have hs' := shok_num hA (x := none) (fun L w => by cases w) (fun d' w => by cases w) (W * 8 + C)
      exact fs_ki_of ⟨v1, v2, b.is10, mc_erase b fun _ a2 => fs_kv_of (tl0 a2 r2 fun h3 a3 => next1 h3 _ _ _ _ _ _ _ hs' r1 a3)⟩
  rw [if_neg o4]
  by_cases o5 : ((xs (Int32.toNatClampNeg (nI z))) &&& (15 : Int32)) = 5
  · rw [if_pos o5]
    generalize xs (Int32.toNatClampNeg (nI z + 1)) = y1
    generalize xs (Int32.toNatClampNeg (nI z + 2)) = y2
    generalize xs (Int32.toNatClampNeg (nI z + 3)) = y3
    generalize xs (Int32.toNatClampNeg (nI z + 4)) = y4
    refine ⟨v1, v2, v3, v4, 1000, 14000, hbc, hbs, lk_copy a hA (fun e => ?_) (fun C W C' W' hC hW hC' hW' e1 e2 e3 e4 e5 => ?_) (fun C W C' W' hC hW hC' hW' e1 e2 e3 e4 e5 h1 g b eg => ?_)⟩
    · obtain ⟨r1, r2⟩ := mq_copy1 q e
      exact fs_ki_of ⟨v1, v2, v3, v4, a.is10, mc_copy qsz a fun _ a2 => fs_ki_of (tl3 a2 r2 (ne_k n10) fun h3 a3 => next1 h3 _ _ _ _ _ _ _ hA r1 a3)⟩
    · subst e1
      subst e2
      subst e3
      subst e4
      obtain ⟨r1, r2⟩ := mq_copy2 q hC hW hC' hW' e5
      exact fs_ki_of ⟨v1, v2, v3, v4, a.is10, mc_copy qsz a fun _ a2 => fs_ki_of (tl3 a2 r2 (ne_k n20) fun h3 a3 => next1 h3 _ _ _ _ _ _ _ hA r1 a3)⟩
    · subst e1
      subst e2
      subst e3
      subst e4
      obtain ⟨r1, r2, r3, r4, r5⟩ := mo_copy hC hW hC' hW' hA q.1 e5
      have hs' := shok_copS hA (show W * 8 + C < 80 by omega) (W' * 8 + C') (nI C' - nI C) (nI W' - nI W)
      exact fs_ki_of ⟨v1, v2, v3, v4, b.is10, mc_copy qsz b fun _ a2 => fs_ki_of (tl3 a2 r4 (fun _ => by rw [r1]; exact eg) fun h3 a3 => next1 h3 _ _ _ _ _ _ _ hs' (q.cg r3 r2 r5) a3)⟩
  rw [if_neg o5]
  by_cases o6 : ((xs (Int32.toNatClampNeg (nI z))) &&& (15 : Int32)) = 6
  · rw [if_pos o6]
    generalize xs (Int32.toNatClampNeg (nI z + 1)) = y1
    refine ⟨v1, 1000, 14000, hbc, hbs, lk_insert a (fun e => ?_) (fun W hW e1 h1 g b eg => ?_)⟩
    · obtain ⟨r1, r2⟩ := mq_insert1 q e
      exact fs_ki_of ⟨v1, a.is10, mc_insert qsz a fun _ a2 => fs_ki_of (tl3 a2 r2 (ne_k n10) fun h3 a3 => next1 h3 _ _ _ _ _ _ _ hA r1 a3)⟩
    · subst e1
      obtain ⟨r1, r2, r3, r4, r5⟩ := mo_insert hW hA q.1
      exact fs_ki_of ⟨v1, b.is10, mc_insert qsz b fun _ a2 => fs_ki_of (tl3 a2 r4 (fun _ => by rw [r1]; exact eg) fun h3 a3 => next1 h3 _ _ _ _ _ _ _ (shok_insS hA W) (q.cg r3 r2 r5) a3)⟩
  rw [if_neg o6]
  by_cases o7 : ((xs (Int32.toNatClampNeg (nI z))) &&& (15 : Int32)) = 7
  · rw [if_pos o7]
    generalize xs (Int32.toNatClampNeg (nI z + 1)) = y1
    refine ⟨v1, 1000, 14000, hbc, hbs, lk_delete a (fun e => ?_) (fun W hW e1 h1 g b eg => ?_)⟩
    · obtain ⟨r1, r2⟩ := mq_delete1 q e
      exact fs_ki_of ⟨v1, a.is10, mc_delete qsz a fun _ a2 => fs_ki_of (tl3 a2 r2 (ne_k n10) fun h3 a3 => next1 h3 _ _ _ _ _ _ _ hA r1 a3)⟩
    · subst e1
      obtain ⟨r1, r2, r3, r4, r5⟩ := mo_delete hW hA q.1
      exact fs_ki_of ⟨v1, b.is10, mc_delete qsz b fun _ a2 => fs_ki_of (tl3 a2 r4 (fun _ => by rw [r1]; exact eg) fun h3 a3 => next1 h3 _ _ _ _ _ _ _ (shok_delS hA W) (q.cg r3 r2 r5) a3)⟩
  rw [if_neg o7]
  by_cases o8 : ((xs (Int32.toNatClampNeg (nI z))) &&& (15 : Int32)) = 8
  · rw [if_pos o8]
    generalize xs (Int32.toNatClampNeg (nI z + 1)) = y1
    generalize xs (Int32.toNatClampNeg (nI z + 2)) = y2
    refine ⟨v1, v2, 1000, 14000, hbc, hbs, lk_value hE a hA (fun e => ?_) (fun C W hC hW e1 e2 e3 => ?_) (fun C W hC hW e1 e2 e3 e4 h1 b => ?_) (fun C W hC hW e1 e2 e3 e4 e5 h1 b => ?_) (fun C W hC hW e1 e2 e3 e4 d e5 e6 h1 g b eg => ?_)⟩
    · obtain ⟨r, r1, r2, r3⟩ := mq_value1 q e
      exact fs_ki_of ⟨v1, v2, a.is10, mc_value r1 a fun _ a2 => fs_kd_of (tl4 a2 r3 (ne_k n10) fun h3 a3 => next1 h3 _ _ _ _ _ _ _ hA r2 a3)⟩
    · subst e1
      subst e2
      obtain ⟨r, r1, r2, r3⟩ := mq_value2 q hC hW e3
      exact fs_ki_of ⟨v1, v2, a.is10, mc_value r1 a fun _ a2 => fs_kd_of (tl4 a2 r3 (ne_k n20) fun h3 a3 => next1 h3 _ _ _ _ _ _ _ hA r2 a3)⟩
    · subst e1
      subst e2
      obtain ⟨r, r1, r2, r3, r4, r5⟩ := mq_value q hA hC hW e3
      exact fs_ki_of ⟨v1, v2, b.is10, mc_value r1 b fun _ a2 => fs_kd_of (tl4 a2 (r3 e4) (ne_k n30) fun h3 a3 => next1 h3 _ _ _ _ _ _ _ hA r2 a3)⟩
    · subst e1
      subst e2
      obtain ⟨r, r1, r2, r3, r4, r5⟩ := mq_value q hA hC hW e3
      exact fs_ki_of ⟨v1, v2, b.is10, mc_value r1 b fun _ a2 => fs_kd_of (tl4 a2 (r4 e4 e5) (ne_k n40) fun h3 a3 => next1 h3 _ _ _ _ _ _ _ hA r2 a3)⟩
    · subst e1
      subst e2
      obtain ⟨r, r1, r2, r3, r4, r5⟩ := mq_value q hA hC hW e3
      obtain ⟨s1, s2⟩ := r5 e4 d e6
      exact fs_ki_of ⟨v1, v2, b.is10, mc_value r1 b fun _ a2 => fs_kd_of (tl4 a2 s1 (fun _ => ⟨by rw [s2]; exact eg, by rw [s2]; exact e5.nn⟩) fun h3 a3 => next1 h3 _ _ _ _ _ _ _ hA r2 a3)⟩
  rw [if_neg o8]
  by_cases o9 : ((xs (Int32.toNatClampNeg (nI z))) &&& (15 : Int32)) = 9
  · rw [if_pos o9]
    generalize xs (Int32.toNatClampNeg (nI z + 1)) = y1
    generalize xs (Int32.toNatClampNeg (nI z + 2)) = y2
    refine ⟨v1, v2, 1000, 14000, hbc, hbs, lk_kind hE a hA (fun e => ?_) (fun C W hC hW e1 e2 h1 g b eg => ?_)⟩
    · obtain ⟨r, r1, r2, r3⟩ := mq_kind1 q e
      exact fs_ki_of ⟨v1, v2, a.is10, mc_kind r1 a fun _ a2 => fs_ki_of (tl3 a2 r3 (ne_k n10) fun h3 a3 => next1 h3 _ _ _ _ _ _ _ hA r2 a3)⟩
    · subst e1
      subst e2
      obtain ⟨r, r1, r2, r3, r4⟩ := mq_kind0 q hA hC hW
      exact fs_ki_of ⟨v1, v2, b.is10, mc_kind r1 b fun _ a2 => fs_ki_of (tl3 a2 r3 (fun _ => by rw [r4]; exact eg) fun h3 a3 => next1 h3 _ _ _ _ _ _ _ hA r2 a3)⟩
  rw [if_neg o9]
  by_cases o10 : ((xs (Int32.toNatClampNeg (nI z))) &&& (15 : Int32)) = 10
  · rw [if_pos o10]
    generalize xs (Int32.toNatClampNeg (nI z + 1)) = y1
    generalize xs (Int32.toNatClampNeg (nI z + 2)) = y2
    generalize xs (Int32.toNatClampNeg (nI z + 3)) = y3
    refine ⟨v1, v2, v3, 1000, 14000, hbc, hbs, lk_text a hA (fun e => ?_) (fun C W hC hW e1 e2 e3 => ?_) (fun C W hC hW e1 e2 Lf e3 h1 g b eg => ?_)⟩
    · obtain ⟨r, r1, r2, r3⟩ := mq_text1 (y3 := y3) q e
      exact fs_ki_of ⟨v1, v2, v3, a.is10, mc_text r1 a fun _ a2 => fs_ki_of (tl3 a2 r3 (ne_k n10) fun h3 a3 => next1 h3 _ _ _ _ _ _ _ hA r2 a3)⟩
    · subst e1
      subst e2
      obtain ⟨r, r1, r2, r3⟩ := mq_text2 (y3 := y3) q hC hW e3
      exact fs_ki_of ⟨v1, v2, v3, a.is10, mc_text r1 a fun _ a2 => fs_ki_of (tl3 a2 r3 (ne_k n20) fun h3 a3 => next1 h3 _ _ _ _ _ _ _ hA r2 a3)⟩
    · subst e1
      subst e2
      obtain ⟨r, r1, r2, r3, r4⟩ := mq_text0 (y3 := y3) q hA hC hW e3
      exact fs_ki_of ⟨v1, v2, v3, b.is10, mc_text r1 b fun _ a2 => fs_ki_of (tl3 a2 r3 (fun _ => by rw [r4]; exact eg) fun h3 a3 => next1 h3 _ _ _ _ _ _ _ hA r2 a3)⟩
  rw [if_neg o10]
  by_cases o11 : ((xs (Int32.toNatClampNeg (nI z))) &&& (15 : Int32)) = 11
  · rw [if_pos o11]
    generalize xs (Int32.toNatClampNeg (nI z + 1)) = y1
    generalize xs (Int32.toNatClampNeg (nI z + 2)) = y2
    generalize xs (Int32.toNatClampNeg (nI z + 3)) = y3
    generalize xs (Int32.toNatClampNeg (nI z + 4)) = y4
    have j0 : ∀ (w0 : Int64) (h' : fs_Hp), (w_LW_law_L28 L xs E K Post m) z1 z2 z3 z4 (nI z + 5) (bc - 1000) (bs - 14000) h' → w_LW_law_L28_J898 L xs (w_LW_law_L28 L xs E K Post m) E K Post z1 z2 z3 z4 (nI z) w0 w0 (bc - 1000) (bs - 14000) h' := fun w0 h' hh => by
      unfold w_LW_law_L28_J898
      rw [if_pos (lg_self _)]
      exact hh
    refine ⟨v1, v2, v3, v4, 1000, 14000, hbc, hbs, lk_reaches hE a hA (fun e => ?_) (fun C W C' W' hC hW hC' hW' e1 e2 e3 e4 h1 g b eg => ?_)⟩
    · obtain ⟨r, r1, r2, r3⟩ := mq_reach1 q e
      refine fs_ki_of ⟨v1, v2, v3, v4, a.is10, mc_reaches r1 a fun _ a2 => fs_ki_of ⟨a2.is10, mc_thrown a2 fun h3 a3 => fs_ki_of ?_⟩⟩
      rw [if_pos r3, if_neg n10]
      exact next1 h3 _ _ _ _ _ _ _ hA r2 a3
    · subst e1
      subst e2
      subst e3
      subst e4
      obtain ⟨r, r1, r2, r3, r4⟩ := mq_reach0 q hA hC hW hC' hW'
      refine fs_ki_of ⟨v1, v2, v3, v4, b.is10, mc_reaches r1 b fun _ a2 => fs_ki_of ?_⟩
      rw [r4]
      exact tlr a2 r3 (fun _ => eg) (j0 0) (j0 1) fun h3 a3 => next1 h3 _ _ _ _ _ _ _ hA r2 a3
  rw [if_neg o11]
  by_cases o12 : ((xs (Int32.toNatClampNeg (nI z))) &&& (15 : Int32)) = 12
  · rw [if_pos o12]
    generalize xs (Int32.toNatClampNeg (nI z + 1)) = y1
    obtain ⟨r, r1, r2, r3⟩ := mq_count q hA y1
    refine ⟨v1, a.1.isc, sh_count hE hA a.1 fun h1 c u => fs_ki_of ⟨v1, (a.cls c u).is10, mc_count r1 (a.cls c u) fun h2 a2 => fs_ki_of ?_⟩⟩
    rw [if_pos r3.symm]
    exact next2 h2 _ _ _ _ _ _ _ hA r2 a2
  rw [if_neg o12]
  exact next2 h _ _ _ _ _ _ _ hA q a
theorem lw_loop (hE : fs_In E) (hL : L ≤ 2560) (hK : ∀ bc bs h, K bc bs h) : ∀ (m z : Nat) (h : fs_Hp) (A : Shh) (f : Nat → Int32) (n : Nat) (er : Int32) (M : mo_S) (g3 : Nat → Int64) (g4 : Nat → UInt64) (bc bs : Nat), L < z + 5 * (m + 1) → z ≤ 2600 → 1000 * m ≤ bc → 14000 * m ≤ bs → shok A → MoQ M A f n er → LI E ad z1 z2 z3 z4 h A f n er M g3 g4 → w_LW_law_L28 L xs E K Post (m + 1) z1 z2 z3 z4 (nI z) bc bs h := by
  intro m
  induction m with
  | zero =>
    intro z h A f n er M g3 g4 bc bs h1 h2 _ _ _ _ _
    rw [w_LW_law_L28]
    try dsimp only
    rw [if_pos ((lw_end hL h2).mpr (by omega))]
    exact hK _ _ _
  | succ m ih =>
    intro z h A f n er M g3 g4 bc bs h1 h2 hbc hbs hA q a
    by_cases hz : L < z + 5
    · rw [w_LW_law_L28]
      try dsimp only
      rw [if_pos ((lw_end hL h2).mpr hz)]
      exact hK _ _ _
    · have e5 : (nI z + 5 : Int32) = nI (z + 5) := nI_add z 5
      refine lw_step hE (by omega) hL (by omega) (by omega) hA q a (fun h' A' f' n' er' M' g3' g4' c1 c2 c3 => ?_) (fun h' A' f' n' er' M' g3' g4' c1 c2 c3 => ?_)
      · rw [e5]
        exact ih (z + 5) h' A' f' n' er' M' g3' g4' _ _ (by omega) (by omega) (by omega) (by omega) c1 c2 c3
      · rw [e5]
        exact ih (z + 5) h' A' f' n' er' M' g3' g4' _ _ (by omega) (by omega) (by omega) (by omega) c1 c2 c3
end
