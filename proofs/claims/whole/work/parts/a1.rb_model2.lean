/-! Pure: the reference's face: enter, value, kind, reaches, count, text. -/
theorem rfq_self {x : Int32} (h : xok x) : rfq x x := by
  rcases h with rfl | ⟨C, W, A, B, h1, h2, h3, h4, e⟩
  · exact ⟨0, 0, 0, 0, 1, by decide, by decide, by decide, by decide, by decide, by decide, by decide⟩
  · exact ⟨C, W, A, B, 0, h1, h2, h3, h4, by decide, by rw [e, Nat.mul_zero, Nat.add_zero], by rw [if_pos rfl]; exact e⟩
theorem ci_of_mi {M : mo_S} {k : Nat} {x : It} (h : mi M k x) (hx : itok x) : ci M k x := by
  obtain ⟨m1, m2, m3, m4⟩ := h
  refine ⟨m1, m2, fun z => ?_, fun z1 z2 => ?_⟩
  · rw [m3 z]
    rcases itok_cases hx with ⟨a, ha, e⟩ | ⟨j, a, b, hj, ha, hb, e⟩ | e
    · rw [e]
      exact rfq_self ha
    · rw [e] at z
      exact absurd z (it_rg j hj).2.1
    · exact absurd z e.no.1
  · rw [(m4 z1 z2).1, (m4 z1 z2).2]
    rcases itok_cases hx with ⟨a, ha, e⟩ | ⟨j, a, b, hj, ha, hb, e⟩ | e
    · rw [e] at z1
      exact absurd z1 (show ¬ (2 : Int32) ≤ 1 by decide)
    · rw [e]
      exact ⟨rfq_self ha, rfq_self hb⟩
    · exact absurd ⟨z1, z2⟩ e.no.2
theorem wt1_pos (x : It) : 1 ≤ wt1 x := by
  unfold wt1
  split
  · omega
  · split
    · omega
    · split
      · omega
      · split
        · omega
        · split <;> omega
theorem len_wtL : ∀ L : List It, L.length ≤ wtL L := by
  intro L
  induction L with
  | nil => exact Nat.le_refl _
  | cons x L ih =>
    have := wt1_pos x
    rw [List.length_cons, wtL]
    omega
theorem shok_set {A : Shh} (hA : shok A) {L : List It} (hfk : fok L) (ht : txk L) (k : Nat) : shok (fun j => if j = k then some (.inr L) else A j) := by
  intro j hj
  try dsimp only
  by_cases z : j = k
  · rw [if_pos z]
    refine ⟨fun d w => (by cases w), fun L' w => ?_⟩
    cases w
    exact ⟨hfk, Nat.le_trans (len_wtL L) ht.2, ht⟩
  · rw [if_neg z]
    exact hA j hj
theorem shok_num {A : Shh} (hA : shok A) {x : Cl} (hx : ∀ L, x ≠ some (.inr L)) (hd : ∀ d, x = some (.inl d) → nb d) (k : Nat) : shok (fun j => if j = k then x else A j) := by
  intro j hj
  try dsimp only
  by_cases z : j = k
  · rw [if_pos z]
    exact ⟨hd, fun L' w => absurd w (hx L')⟩
  · rw [if_neg z]
    exact hA j hj
section
variable {M M' : mo_S} {A A' : Shh} {f f' : Nat → Int32} {n n' : Nat} {er : Int32}
theorem MoQ.pmL (q : MoQ M A f n er) : pm_L M (pa_n f n) n := by
  obtain ⟨q1, q2, q3, q4, q5, q6, q7, q8, q9⟩ := q
  refine ⟨q7, q8, fun i hi => ?_, pa_n0, q6⟩
  obtain ⟨e1, c, hc, e2⟩ := q9 i hi
  have e3 : pa_n f n i = c := by
    unfold pa_n
    rw [if_pos hi, e2, nI_clamp (by omega)]
  rw [e3, e1]
  exact ⟨e2, hc⟩
theorem MoQ.byF (q : MoQ M A f n er) (a : mm_F M M') : MoQ M' A f n er ∧ M'.1 11 = M.1 11 := by
  obtain ⟨q1, q2, q3, q4, q5, q6, q7, q8, q9⟩ := q
  obtain ⟨a1, a2, a3, a4⟩ := a
  refine ⟨⟨q1.eqv (fun j k hj hk => a2 j k (by omega)) (fun j k hj hk => a2 j k (by omega)) (fun k hk => a3 6 k (by omega)) (fun k _ => by rw [a4]), fun k hk => ?_, fun k => ?_, fun z => ?_, (a1 10 (by omega)).trans q5, fun j hj k hk => (a2 7 _ (by omega)).trans (q6 j hj k hk), (a1 9 (by omega)).trans q7, q8, fun i hi => ⟨(a2 8 i (by omega)).trans (q9 i hi).1, (q9 i hi).2⟩⟩, a1 11 (by omega)⟩
  · rw [a2 0 k (by omega)]
    exact q2 k hk
  · rw [a2 1 k (by omega)]
    exact q3 k
  · rw [a1 12 (by omega)] at z
    exact (q4 z).eqv (fun k => a2 18 k (by omega)) (fun j k _ _ => a3 j k (by omega)) (fun k => by rw [a4])
theorem MoQ.f10 (q : MoQ M A f n er) (z : Int32) : MoQ (mo_f (mo_f M 10 z) 9 0) A f 0 z ∧ (mo_f (mo_f M 10 z) 9 0).1 11 = M.1 11 := by
  obtain ⟨q1, q2, q3, q4, q5, q6, q7, q8, q9⟩ := q
  exact ⟨⟨(q1.f 10 z).f 9 0, q2, q3, fun e => q4 e, rfl, q6, rfl, Nat.zero_le _, fun i hi => absurd hi (Nat.not_lt_zero i)⟩, rfl⟩
theorem mq_enter1 (q : MoQ M A f n er) {y1 y2 : Int32} (h : p_MO_out y1 y2 = 1) : ∃ r, q_MO_enter M y1 y2 = some r ∧ MoQ r.2 A f n er ∧ r.2.1 11 = 1 := by
  refine ⟨(0, mo_f (mo_f M 11 0) 11 1), ?_, (q.f11 0).f11 1, mo_f_at _ 11 1⟩
  unfold q_MO_enter
  rw [h, if_neg (show ¬ (1 : Int32) = 0 by decide)]
  rfl
theorem mq_enter2 (q : MoQ M A f n er) {C W : Nat} (hC : C < 8) (hW : W < 10) (hr : (ps_read (pa_n f n) n).1 = none) : ∃ r, q_MO_enter M (nI C) (nI W) = some r ∧ MoQ r.2 A f 0 (nI (ps_read (pa_n f n) n).2) ∧ r.2.1 11 = 2 := by
  obtain ⟨M1, e1, e2, _⟩ := pm_fault (q.f11 0).pmL
  have er : pm_rs (ps_read (pa_n f n) n) = nI (ps_read (pa_n f n) n).2 := by
    unfold pm_rs
    rw [hr]
  have hle : (ps_read (pa_n f n) n).2 ≤ n := ps_read_le pa_n0
  have h40 := q.2.2.2.2.2.2.2.1
  rw [er] at e1
  have q1 := ((q.f11 0).byF e2).1
  refine ⟨(0, mo_f (mo_f (mo_f M1 10 (nI (ps_read (pa_n f n) n).2)) 9 0) 11 2), ?_, (q1.f10 _).1.f11 2, mo_f_at _ 11 2⟩
  unfold q_MO_enter
  rw [if_pos (out_in hC hW), e1, Option.bind_some]
  try dsimp only
  rw [if_neg (nI_pos (by omega))]
  rfl
theorem en_L94 {c : Nat} (hc : c < 80) : ∀ (m z acc g : Nat), z + m = 80 → m < g → q_MO_enter_L94 g (nI c) (nI acc) (nI z) M = some (nI (acc + cfr (m13 M c) m z)) := by
  intro m
  induction m with
  | zero =>
    intro z acc g hz hg
    obtain ⟨g, rfl⟩ : ∃ p, g = p + 1 := ⟨g - 1, by omega⟩
    rw [q_MO_enter_L94, if_pos (show (80 : Int32) ≤ nI z from nI_le (a := 80) (by omega) (by omega))]
    rfl
  | succ m ih =>
    intro z acc g hz hg
    obtain ⟨g, rfl⟩ : ∃ p, g = p + 1 := ⟨g - 1, by omega⟩
    have cin : vp_in (nI c) 80 := nI_in hc (by omega)
    rw [q_MO_enter_L94, if_neg (show ¬ (80 : Int32) ≤ nI z from nI_ge (b := 80) (by omega) (by decide)), fs_okp_pos cin, fs_okp_pos cin, nI_clamp (by omega), mo_in (show z < 80 by omega), nI_1, nI_1, cfr]
    have e : ms (M.2.2.1 13 c) (M.2.2.1 14 c) z = m13 M c z := rfl
    rw [e]
    cases h : m13 M c z with
    | true =>
      rw [bi_1 rfl, if_neg (show ¬ (1 : Int32) = 0 by decide), ih (z + 1) (acc + 1) g (by omega) (by omega), if_pos rfl, Nat.add_assoc]
    | false =>
      rw [bi_0 rfl, if_pos rfl, ih (z + 1) acc g (by omega) (by omega), if_neg (by decide), Nat.zero_add]
theorem mq_enter0 (q : MoQ M A f n er) (hA : shok A) {C W : Nat} (hC : C < 8) (hW : W < 10) {L : List It} (hr : (ps_read (pa_n f n) n).1 = some L) (hfk : fok L) : shok (fun j => if j = W * 8 + C then some (.inr L) else A j) ∧ ∃ r, q_MO_enter M (nI C) (nI W) = some r ∧ MoQ r.2 (fun j => if j = W * 8 + C then some (.inr L) else A j) f 0 (-1) ∧ r.2.1 11 = 0 ∧ r.1 = nI (cnt (rck L)) := by
  have h40 := q.2.2.2.2.2.2.2.1
  have htx : txk L := txk_read hr h40
  have hs' : shok (fun j => if j = W * 8 + C then some (.inr L) else A j) := shok_set hA hfk htx (W * 8 + C)
  refine ⟨hs', ?_⟩
  obtain ⟨i1, i2, i3, i4⟩ := idxM hC hW
  obtain ⟨M1, e1, e2, e3⟩ := pm_fault (q.f11 0).pmL
  obtain ⟨l1, l2, l3⟩ := e3 L hr
  have er : pm_rs (ps_read (pa_n f n) n) = -1 := by
    unfold pm_rs
    rw [hr]
  rw [er] at e1
  have q1 := (q.f11 0).byF e2
  have q2 := q1.1.f10 (-1)
  have hM2 : ∃ M2, M2 = mo_f (mo_f M1 10 (-1)) 9 0 := ⟨_, rfl⟩
  obtain ⟨M2, eM2⟩ := hM2
  rw [← eM2] at q2
  have hM3 : ∃ M3, M3 = mo_i (mo_i M2 0 80 2) 1 80 (nI L.length) := ⟨_, rfl⟩
  obtain ⟨M3, eM3⟩ := hM3
  have a3 : ∀ j k, M3.2.1 j k = if j = 1 ∧ k = 80 then nI L.length else if j = 0 ∧ k = 80 then 2 else M2.2.1 j k := fun j k => by rw [eM3, mo_i_at, mo_i_at]
  have a31 : M3.1 = M2.1 := by rw [eM3]; rfl
  have a32 : M3.2.2 = M2.2.2 := by rw [eM3]; rfl
  have q3 : MoQ M3 A f 0 (-1) := by
    obtain ⟨p1, p2, p3, p4, p5, p6, p7, p8, p9⟩ := q2.1
    refine ⟨p1.eqv (fun j k hj hk => by rw [a3, if_neg (by omega), if_neg (by omega)]) (fun j k hj hk => by rw [a3, if_neg (by omega), if_neg (by omega)]) (fun k _ => by rw [a32]) (fun k _ => by rw [a32]), fun k hk => ?_, fun k => ?_, fun z => ?_, by rw [a31]; exact p5, fun j hj k hk => ?_, by rw [a31]; exact p7, p8, fun i hi => absurd hi (Nat.not_lt_zero i)⟩
    · rw [a3, if_neg (by omega)]
      split
      · exact Or.inr (Or.inr rfl)
      · exact p2 k hk
    · rw [a3]
      split
      · rw [nI_toInt (by omega)]
        omega
      · rw [if_neg (by omega)]
        exact p3 k
    · rw [a31] at z
      exact (p4 z).eqv (fun k => by rw [a3, if_neg (by omega), if_neg (by omega)]) (fun j k _ _ => by rw [a32]) (fun k => by rw [a32])
    · rw [a3, if_neg (by omega), if_neg (by omega)]
      exact p6 j hj k hk
  have hx : mRc M3 80 (some (.inr L)) := by
    refine ⟨fun z => (by cases z), fun d z => (by cases z), fun L' z => ?_⟩
    cases z
    refine ⟨by rw [a3, if_neg (by omega), if_pos ⟨rfl, rfl⟩], by rw [a3, if_pos ⟨rfl, rfl⟩], l2, fun j y hj => ?_⟩
    have c1 := ci_of_mi (l3 j y hj) (hfk.1 y (List.mem_of_getElem? hj))
    refine c1.eqv (fun i hi => ?_) ?_
    · rw [a3, if_neg (by omega), if_neg (by omega), eM2]
      rfl
    · rw [a32, eM2]
      rfl
  obtain ⟨cp1, _, _, cp2⟩ := mo_copyCell (M := M3) (show 80 < 81 by omega) (show 10 * C + W < 81 by omega)
  have gc := gF_copy (M := M3) (show 80 < 81 by omega) (show 10 * C + W < 81 by omega)
  have key := q3.setC i4 cp1 (cp2 _ hx) (gc.2.2.2.2.1 q3.2.1) (gc.2.2.2.2.2.1 q3.2.2.1)
  rw [i3] at key
  obtain ⟨M5, w1, w2, w3, w4⟩ := mq_work hs' key.1
  have e11 : M5.1 11 = 0 := by
    rw [w4, key.2, a31, q2.2, q1.2]
    exact mo_f_at M 11 0
  have ec : cfr (m13 M5 (10 * C + W)) 80 0 = cnt (rck L) := by
    rw [cfr_80, ← cnt_kap (rck L)]
    refine cnt_eq fun i hi => ?_
    rw [w3.1 (10 * C + W) i i4 hi, i3]
    exact refA_L (if_pos rfl) (by omega) (kap_lt hi)
  refine ⟨(nI (cnt (rck L)), M5), ?_, w2, e11, rfl⟩
  unfold q_MO_enter
  rw [if_pos (out_in hC hW), e1, Option.bind_some]
  try dsimp only
  rw [if_pos (show (-1 : Int32) < 0 by decide), i1]
  have v80 : vp_in (80 : Int32) 81 := nI_in (c := 80) (by decide) (by decide)
  rw [fs_okp_pos v80, fs_okp_pos v80, fs_okp_pos (show (0 ≤ (Int32.toInt 80)) ∧ ((Int32.toInt 80) < 81) ∧ (0 ≤ (Int32.toInt (nI (10 * C + W)))) ∧ ((Int32.toInt (nI (10 * C + W))) < 81) from ⟨by decide, by decide, by rw [nI_toInt (by omega)]; omega, by rw [nI_toInt (by omega)]; omega⟩)]
  have e4 : mo_i (mo_i (mo_f (mo_f M1 10 (-1)) 9 0) 0 (Int32.toNatClampNeg 80) 2) 1 (Int32.toNatClampNeg 80) (M1.1 30) = M3 := by
    rw [eM3, eM2, l1]
    rfl
  rw [e4]
  unfold fs_let
  try dsimp only
  have w1' : q_MO_work (mo_f (p_MO_copyCell M3 80 (nI (10 * C + W))) 12 1) = some M5 := w1
  rw [w1', Option.bind_some]
  try dsimp only
  have lp := en_L94 (M := M5) i4 80 0 0 81 (by omega) (by omega)
  rw [Nat.zero_add, ec] at lp
  have lp' : q_MO_enter_L94 81 (nI (10 * C + W)) 0 0 M5 = some (nI (cnt (rck L))) := lp
  rw [lp', Option.bind_some]
theorem mo_circ (s : stM A M) {z : Nat} (hz : z < 80) : (p_MO_circular M (nI z)).1 = bi (rea A (kap z) (kap z)) := by
  unfold p_MO_circular
  try dsimp only
  rw [nI_clamp (by omega), mo_in hz]
  have : ms (M.2.2.1 15 z) (M.2.2.1 16 z) z = m15 M z z := rfl
  rw [this, s.2.1 z z hz hz]
theorem mq_value1 (q : MoQ M A f n er) {y1 y2 : Int32} (h : p_MO_out y1 y2 = 1) : ∃ r, q_MO_value M y1 y2 = some r ∧ MoQ r.2 A f n er ∧ r.2.1 11 = 1 := by
  refine ⟨(FP.i2d 0, mo_f (mo_f M 11 0) 11 1), ?_, (q.f11 0).f11 1, mo_f_at _ 11 1⟩
  unfold q_MO_value
  rw [h, if_neg (show ¬ (1 : Int32) = 0 by decide)]
  rfl
theorem mq_value2 (q : MoQ M A f n er) {C W : Nat} (hC : C < 8) (hW : W < 10) (hA : A (W * 8 + C) = none) : ∃ r, q_MO_value M (nI C) (nI W) = some r ∧ MoQ r.2 A f n er ∧ r.2.1 11 = 2 := by
  obtain ⟨i1, i2, i3, i4⟩ := idxM hC hW
  refine ⟨(FP.i2d 0, mo_f (mo_f M 11 0) 11 2), ?_, (q.f11 0).f11 2, mo_f_at _ 11 2⟩
  unfold q_MO_value
  rw [if_pos (out_in hC hW), i1, fs_okp_pos (show vp_in (nI (10 * C + W)) 81 from nI_in (by omega) (by decide)), i2, if_pos ((q.1.at0 i4).mpr (by rw [i3]; exact hA))]
  rfl
theorem mq_value (q : MoQ M A f n er) (hs : shok A) {C W : Nat} (hC : C < 8) (hW : W < 10) (hA : A (W * 8 + C) ≠ none) : ∃ r, q_MO_value M (nI C) (nI W) = some r ∧ MoQ r.2 A f n er ∧ (rea A (W * 8 + C) (W * 8 + C) = true → r.2.1 11 = 3) ∧ (rea A (W * 8 + C) (W * 8 + C) = false → val A (W * 8 + C) = none → r.2.1 11 = 4) ∧ (rea A (W * 8 + C) (W * 8 + C) = false → ∀ d, val A (W * 8 + C) = some d → r.2.1 11 = 0 ∧ r.1 = d) := by
  obtain ⟨i1, i2, i3, i4⟩ := idxM hC hW
  obtain ⟨M1, w1, w2, w3, w4⟩ := mq_work hs (q.f11 0)
  have ecirc := mo_circ w3 i4
  have ev := w3.2.2 _ i4 (by rw [i3]; exact hA)
  rw [i3] at ecirc ev
  have z80 : vp_in (nI (10 * C + W)) 80 := nI_in i4 (by decide)
  have start : q_MO_value M (nI C) (nI W) = (if bi (rea A (W * 8 + C) (W * 8 + C)) = 0 then (if M1.2.1 18 (10 * C + W) = 0 then some (M1.2.2.2 17 (10 * C + W), M1) else fs_let (p_MO_fail M1 4) (fun R1053 => some (FP.i2d R1053.1, R1053.2))) else fs_let (p_MO_fail M1 3) (fun R1054 => some (FP.i2d R1054.1, R1054.2))) := by
    unfold q_MO_value
    rw [if_pos (out_in hC hW), i1, fs_okp_pos (show vp_in (nI (10 * C + W)) 81 from nI_in (by omega) (by decide)), i2, if_neg (fun z => hA (by rw [← i3]; exact (q.1.at0 i4).mp z)), w1, Option.bind_some]
    try dsimp only
    rw [fs_okp_pos (show (0 ≤ (Int32.toInt (nI (10 * C + W)))) ∧ ((Int32.toInt (nI (10 * C + W))) < 80) from ⟨by rw [nI_toInt (by omega)]; omega, by rw [nI_toInt (by omega)]; omega⟩), ecirc, fs_okp_pos z80, fs_okp_pos z80]
  rw [start]
  unfold vM at ev
  cases er : rea A (W * 8 + C) (W * 8 + C) with
  | true =>
    rw [bi_1 rfl, if_neg (show ¬ (1 : Int32) = 0 by decide)]
    exact ⟨_, rfl, w2.f11 3, fun _ => mo_f_at _ 11 3, fun z => (by cases z), fun z => by cases z⟩
  | false =>
    rw [bi_0 rfl, if_pos rfl]
    by_cases h18 : M1.2.1 18 (10 * C + W) = 0
    · rw [if_pos h18] at ev ⊢
      refine ⟨_, rfl, w2, fun z => (by cases z), fun _ z => ?_, fun _ d z => ⟨w4.trans (mo_f_at M 11 0), ?_⟩⟩
      · rw [z] at ev
        cases ev
      · rw [z] at ev
        exact Option.some.inj ev
    · rw [if_neg h18] at ev ⊢
      refine ⟨_, rfl, w2.f11 4, fun z => (by cases z), fun _ _ => mo_f_at _ 11 4, fun _ d z => ?_⟩
      rw [z] at ev
      cases ev
theorem mo_kind (hR : mR M A) (s : stM A M) {z : Nat} (hz : z < 80) : p_MO_kindOf M (nI z) = (kdA A (kap z), M) := by
  obtain ⟨h1, h2, h3⟩ := hR z hz
  unfold p_MO_kindOf kdA
  rw [nI_clamp (by omega), mo_circ s hz]
  match e : A (kap z) with
  | none =>
    rw [h1 e, if_neg (by decide)]
    rfl
  | some (.inl d) =>
    rw [(h2 d e).1, if_neg (by decide)]
    rfl
  | some (.inr L) =>
    have ev := s.2.2 z hz (by rw [e]; exact fun w => by cases w)
    unfold vM at ev
    rw [(h3 L e).1, if_pos (by decide)]
    unfold kdC
    try dsimp only
    cases er : rea A (kap z) (kap z) with
    | true =>
      rw [bi_1 rfl, if_neg (show ¬ (1 : Int32) = 0 by decide), if_pos rfl]
    | false =>
      rw [bi_0 rfl, if_pos rfl, show (if false = true then (4 : Int32) else if val A (kap z) = none then 3 else 2) = (if val A (kap z) = none then 3 else 2) from if_neg (by decide)]
      by_cases h18 : M.2.1 18 z = 0
      · rw [if_pos h18] at ev ⊢
        rw [if_neg (by rw [← ev]; exact fun w => by cases w)]
      · rw [if_neg h18] at ev ⊢
        rw [if_pos ev.symm]
theorem mq_kind1 (q : MoQ M A f n er) {y1 y2 : Int32} (h : p_MO_out y1 y2 = 1) : ∃ r, q_MO_kind M y1 y2 = some r ∧ MoQ r.2 A f n er ∧ r.2.1 11 = 1 := by
  refine ⟨(0, mo_f (mo_f M 11 0) 11 1), ?_, (q.f11 0).f11 1, mo_f_at _ 11 1⟩
  unfold q_MO_kind
  rw [h, if_neg (show ¬ (1 : Int32) = 0 by decide)]
  rfl
theorem mq_kind0 (q : MoQ M A f n er) (hs : shok A) {C W : Nat} (hC : C < 8) (hW : W < 10) : ∃ r, q_MO_kind M (nI C) (nI W) = some r ∧ MoQ r.2 A f n er ∧ r.2.1 11 = 0 ∧ r.1 = kdA A (W * 8 + C) := by
  obtain ⟨i1, i2, i3, i4⟩ := idxM hC hW
  obtain ⟨M1, w1, w2, w3, w4⟩ := mq_work hs (q.f11 0)
  refine ⟨(kdA A (W * 8 + C), M1), ?_, w2, w4.trans (mo_f_at M 11 0), rfl⟩
  unfold q_MO_kind
  rw [if_pos (out_in hC hW), w1, Option.bind_some]
  try dsimp only
  rw [i1, fs_okp_pos (show (0 ≤ (Int32.toInt (nI (10 * C + W)))) ∧ ((Int32.toInt (nI (10 * C + W))) < 80) from ⟨by rw [nI_toInt (by omega)]; omega, by rw [nI_toInt (by omega)]; omega⟩), mo_kind w2.1 w3 i4, i3]
theorem mq_reach1 (q : MoQ M A f n er) {y1 y2 y3 y4 : Int32} (h : p_MO_out y1 y2 = 1 ∨ p_MO_out y3 y4 = 1) : ∃ r, q_MO_reaches M y1 y2 y3 y4 = some r ∧ MoQ r.2 A f n er ∧ r.2.1 11 = 1 := by
  refine ⟨(0, mo_f (mo_f M 11 0) 11 1), ?_, (q.f11 0).f11 1, mo_f_at _ 11 1⟩
  unfold q_MO_reaches
  rcases out_or y1 y2 with e1 | e1
  · rw [if_pos e1]
    have e3 : p_MO_out y3 y4 = 1 := by
      rcases h with h | h
      · rw [e1] at h
        exact absurd h (by decide)
      · exact h
    rw [e3, if_neg (show ¬ (1 : Int32) = 0 by decide)]
  · rw [e1, if_neg (show ¬ (1 : Int32) = 0 by decide)]
theorem mq_reach0 (q : MoQ M A f n er) (hs : shok A) {C W C' W' : Nat} (hC : C < 8) (hW : W < 10) (hC' : C' < 8) (hW' : W' < 10) : ∃ r, q_MO_reaches M (nI C) (nI W) (nI C') (nI W') = some r ∧ MoQ r.2 A f n er ∧ r.2.1 11 = 0 ∧ r.1 = bi (rea A (W * 8 + C) (W' * 8 + C')) := by
  obtain ⟨i1, i2, i3, i4⟩ := idxM hC hW
  obtain ⟨j1, j2, j3, j4⟩ := idxM hC' hW'
  obtain ⟨M1, w1, w2, w3, w4⟩ := mq_work hs (q.f11 0)
  have z80 : vp_in (nI (10 * C + W)) 80 := nI_in i4 (by decide)
  have e : p_MO_in (M1.2.2.1 15 (10 * C + W)) (M1.2.2.1 16 (10 * C + W)) (nI (10 * C' + W')) = bi (rea A (W * 8 + C) (W' * 8 + C')) := by
    rw [mo_in j4]
    have : ms (M1.2.2.1 15 (10 * C + W)) (M1.2.2.1 16 (10 * C + W)) (10 * C' + W') = m15 M1 (10 * C + W) (10 * C' + W') := rfl
    rw [this, w3.2.1 _ _ i4 j4, i3, j3]
  refine ⟨(bi (rea A (W * 8 + C) (W' * 8 + C')), M1), ?_, w2, w4.trans (mo_f_at M 11 0), rfl⟩
  unfold q_MO_reaches
  rw [if_pos (out_in hC hW), if_pos (out_in hC' hW'), w1, Option.bind_some]
  try dsimp only
  rw [i1, j1, i2, e, fs_okp_pos z80, fs_okp_pos z80, fs_okp_pos (show bi (rea A (W * 8 + C) (W' * 8 + C')) = 0 ∨ bi (rea A (W * 8 + C) (W' * 8 + C')) = 1 by cases rea A (W * 8 + C) (W' * 8 + C') <;> decide)]
theorem mq_text1 (q : MoQ M A f n er) {y1 y2 y3 : Int32} (h : p_MO_out y1 y2 = 1) : ∃ r, q_MO_text M y1 y2 y3 = some r ∧ MoQ r.2 A f n er ∧ r.2.1 11 = 1 := by
  refine ⟨(0, mo_f (mo_f M 11 0) 11 1), ?_, (q.f11 0).f11 1, mo_f_at _ 11 1⟩
  unfold q_MO_text
  rw [h, if_neg (show ¬ (1 : Int32) = 0 by decide)]
  rfl
theorem mq_text2 (q : MoQ M A f n er) {C W : Nat} {y3 : Int32} (hC : C < 8) (hW : W < 10) (hA : ∀ L, A (W * 8 + C) ≠ some (.inr L)) : ∃ r, q_MO_text M (nI C) (nI W) y3 = some r ∧ MoQ r.2 A f n er ∧ r.2.1 11 = 2 := by
  obtain ⟨i1, i2, i3, i4⟩ := idxM hC hW
  have h2 : ¬ M.2.1 0 (10 * C + W) = 2 := by
    obtain ⟨h1, h2, h3⟩ := q.1 _ i4
    rw [i3] at h1 h2 h3
    match e : A (W * 8 + C) with
    | none => rw [h1 e]; decide
    | some (.inl d) => rw [(h2 d e).1]; decide
    | some (.inr L) => exact absurd e (hA L)
  refine ⟨(0, mo_f (mo_f M 11 0) 11 2), ?_, (q.f11 0).f11 2, mo_f_at _ 11 2⟩
  unfold q_MO_text
  rw [if_pos (out_in hC hW), i1, fs_okp_pos (show vp_in (nI (10 * C + W)) 81 from nI_in (by omega) (by decide)), i2, if_neg h2]
  rfl
theorem mq_text0 (q : MoQ M A f n er) (hs : shok A) {C W : Nat} {y3 : Int32} (hC : C < 8) (hW : W < 10) {L : List It} (hA : A (W * 8 + C) = some (.inr L)) : ∃ r, q_MO_text M (nI C) (nI W) y3 = some r ∧ MoQ r.2 A f n er ∧ r.2.1 11 = 0 ∧ r.1 = txc (tex L) y3 := by
  obtain ⟨i1, i2, i3, i4⟩ := idxM hC hW
  obtain ⟨h0, hcf⟩ := (q.1 _ i4).2.2 L (by rw [i3]; exact hA)
  obtain ⟨hfk, _, htx⟩ := (hs _ (show W * 8 + C < 80 by omega)).2 L hA
  obtain ⟨M', e1, e2⟩ := mo_text (x3 := y3) hC hW h0 hfk htx hcf q.2.2.2.2.2.1
  have q0 := q.f11 0
  refine ⟨(txc (tex L) y3, M'), e1, ?_, (e2.1 11 (by decide) (by decide)).trans (mo_f_at M 11 0), rfl⟩
  refine q0.eqv (fun j k hj => e2.2.1 j k (by omega) (by omega) (by omega)) e2.2.2 (e2.1 10 (by decide) (by decide)) (e2.1 12 (by decide) (by decide)) ((e2.1 9 (by decide) (by decide)).trans q0.2.2.2.2.2.2.1) q.2.2.2.2.2.2.2.1 fun i hi => ?_
  rw [e2.2.1 8 i (by decide) (by decide) (by decide)]
  exact q0.2.2.2.2.2.2.2.2 i hi
end
