/-! Pure: what a formula's parts are worth in the class. -/
theorem rp.noga : ∀ (n : Nat) {E : fs_E} {h : fs_Hp} {r ga : Nat} {gf : Nat → UInt64} {L : List It} {F : List Nat}, rp n E h r L F → gaF E h ga gf → ∀ q ∈ F, q ≠ ga := by
  intro n
  induction n with
  | zero => intro E h r ga gf L F a; exact a.elim
  | succ n ih =>
    intro E h r ga gf L F a hg q hq
    have hrf : ∀ {r x F}, tr_rf E h r x F → ∀ q ∈ F, q ≠ ga := by
      intro r x F t q hq
      obtain ⟨cf, rf, c, w, lo, i, g, h1, h2, h3, rfl⟩ := t
      simp only [List.mem_cons, List.not_mem_nil, or_false] at hq
      rcases hq with rfl | rfl
      · exact hg.ne h1
      · exact hg.neR h2
    rcases a with a | a | a | a | a | a | a
    · obtain ⟨b, d, i, g, h0, h0', h1, h2, h3, rfl⟩ := a
      simp only [List.mem_cons, List.not_mem_nil, or_false] at hq
      rcases hq with rfl | rfl
      · exact hg.ne h1
      · exact hg.neR h2
    · obtain ⟨x, h1, h2⟩ := a
      exact hrf h1 q hq
    · obtain ⟨s, w, i, q1, g, L1, F1, h1, h2, h3, h4, h5, h6, rfl⟩ := a
      simp only [List.mem_cons] at hq
      rcases hq with rfl | rfl | hq
      · exact hg.ne h1
      · exact hg.neR h2
      · exact ih h4 hg q hq
    · obtain ⟨s, i, q1, q2, g, L1, L2, F1, F2, h1, h2, h3, h4, h5, h6, h7, h8, rfl⟩ := a
      simp only [List.mem_cons, List.mem_append] at hq
      rcases hq with rfl | rfl | hq | hq
      · exact hg.ne h1
      · exact hg.neR h2
      · exact ih h5 hg q hq
      · exact ih h6 hg q hq
    · obtain ⟨j, i, q1, g, L1, F1, h0, h1, h2, h3, h4, h5, rfl⟩ := a
      simp only [List.mem_cons] at hq
      rcases hq with rfl | rfl | hq
      · exact hg.ne h1
      · exact hg.neR h2
      · exact ih h4 hg q hq
    · obtain ⟨i, q1, q2, q3, g, L1, L2, L3, F1, F2, F3, h1, h2, h3, h4, h5, h6, h7, h8, h9, rfl⟩ := a
      simp only [List.mem_cons, List.mem_append] at hq
      rcases hq with rfl | rfl | (hq | hq) | hq
      · exact hg.ne h1
      · exact hg.neR h2
      · exact ih h6 hg q hq
      · exact ih h7 hg q hq
      · exact ih h8 hg q hq
    · obtain ⟨j, a, b, i, g, x, y, Fa, Fb, h0, h1, h2, h3, h4, h5, h6, h7, rfl⟩ := a
      simp only [List.mem_cons, List.mem_append] at hq
      rcases hq with rfl | rfl | hq | hq
      · exact hg.ne h1
      · exact hg.neR h2
      · exact hrf h5 q hq
      · exact hrf h6 q hq
theorem rp.gx {n : Nat} {E : fs_E} {h h' : fs_Hp} {r ga : Nat} {gf : Nat → UInt64} {L : List It} {F : List Nat} (a : rp n E h r L F) (hg : gaF E h ga gf) (hx : gx ga h h') : rp n E h' r L F := a.kept n fun q hq => hx q (a.noga n hg q hq)
theorem ev1_pair {cv : Nat → Nat → Option Vl} {s : Int32} (hs : tr_sg s) (a b : Vl) (t : List Vl) : ev1 cv (s, 0, 0, 0) (b :: a :: t) = pv2o s a b :: t := by
  rcases hs with rfl | rfl | rfl | rfl | rfl | rfl | rfl | rfl | rfl | rfl <;> rfl
theorem nu_scale {E : fs_E} {h : fs_Hp} {r b : Nat} {d : Int64} {i : Nat} {K : Int64 → fs_Hp → Prop} {Post : fs_Ps} (hr : h r = some (.inr (4, [.long d, .int (nI b), .ref i]))) (hb : b ≤ 4) (hK : K (lN (10 ^ b)) h) : ∀ (k j : Nat), j + k = b → w_NU_scale_L4 E K Post (k + 1) r (lN (10 ^ j)) (nI j) h := by
  intro k
  induction k with
  | zero =>
    intro j hj
    rw [w_NU_scale_L4]
    refine fs_gi_of hr rfl ?_
    rw [if_pos (nI_le (by omega) (by omega))]
    rw [show j = b by omega]
    exact hK
  | succ k ih =>
    intro j hj
    rw [w_NU_scale_L4]
    refine fs_gi_of hr rfl ?_
    rw [if_neg (nI_ge (by omega) (by omega)), nI_1]
    have e : lN (10 ^ j) * 10 = lN (10 ^ (j + 1)) := by
      rw [show (10 : Int64) = lN 10 from rfl, lN_mul, Nat.pow_succ]
    rw [e]
    exact ih (j + 1) (by omega)
theorem pa_holds {E : fs_E} {h : fs_Hp} {r i : Nat} {s : Int32} {x y : UInt64} {Post : fs_Ps} (hr : h r = some (.inr (7, [.int s, .ref i]))) (hK : Post (.inl (some (.int (pvh s x y)))) h) : w_PA_holds E h r x y Post := by
  refine fs_gi_of hr rfl ?_
  unfold pvh at hK
  repeat' split
  all_goals simp_all
theorem pa_rulw {E : fs_E} {h : fs_Hp} {r i : Nat} {s : Int32} {Post : fs_Ps} (hr : h r = some (.inr (7, [.int s, .ref i]))) (kA : (s = 43 ∨ s = 45) → Post (.inl (some (.int 2))) h) (kM : (s = 42 ∨ s = 47) → Post (.inl (some (.int 3))) h) (k0 : ¬ (s = 42 ∨ s = 43 ∨ s = 45 ∨ s = 47) → ∀ q : Int32, (q = 0 ∨ q = 1) → Post (.inl (some (.int q))) h) : w_PA_rule E h r Post := by
  refine fs_gi_of hr rfl ?_
  by_cases s38 : s = 38
  · rw [if_pos s38]
    exact k0 (by rw [s38]; decide) 0 (Or.inl rfl)
  · rw [if_neg s38]
    by_cases s42 : s = 42
    · rw [if_pos s42]
      exact kM (Or.inl s42)
    · rw [if_neg s42]
      by_cases s43 : s = 43
      · rw [if_pos s43]
        exact kA (Or.inl s43)
      · rw [if_neg s43]
        by_cases s45 : s = 45
        · rw [if_pos s45]
          exact kA (Or.inr s45)
        · rw [if_neg s45]
          by_cases s47 : s = 47
          · rw [if_pos s47]
            exact kM (Or.inr s47)
          · rw [if_neg s47]
            have hn : ¬ (s = 42 ∨ s = 43 ∨ s = 45 ∨ s = 47) := fun z => z.elim s42 (fun z => z.elim s43 (fun z => z.elim s45 s47))
            split
            · exact k0 hn 0 (Or.inl rfl)
            · exact k0 hn 1 (Or.inr rfl)
theorem cls_worth {E : fs_E} (hE : fs_In E) {ce fil fo va re ga od : Nat} {st : Int32} {bf : Nat → Int32} {vf : Nat → UInt64} : ∀ (n : Nat) {h : fs_Hp} {r : Nat} {L : List It} {F : List Nat} {gf : Nat → UInt64}, rp n E h r L F → ceF E h ce fil fo va re ga od st bf vf → gaF E h ga gf → ∃ v, (∀ t, evs (cvC bf vf) L t = v :: t) ∧ ∀ Post, wK E ga h v Post → w_N_worth n E h r ce Post := by
  intro n
  induction n with
  | zero => intro h r L F gf a; exact a.elim
  | succ n ih =>
    intro h r L F gf a hc hg
    have hself : ∀ {h1 : fs_Hp} {q : Nat} {L1 : List It} {F1 : List Nat}, gx ga h h1 → (∃ gf1, gaF E h1 ga gf1) → rp n E h q L1 F1 → ∃ v, (∀ t, evs (cvC bf vf) L1 t = v :: t) ∧ ∀ Post, wK E ga h1 v Post → w_N_worth n E h1 q ce Post := by
      intro h1 q L1 F1 hx ⟨gf1, hg1⟩ a1
      exact ih (a1.gx hg hx) (hc.kept hg hx) hg1
    rcases a with a | a | a | a | a | a | a
    · obtain ⟨b, d, i, g, h0, h0', h1, h2, h3, h4⟩ := a
      subst h3
      refine ⟨some (nuv (nI b) (lN d)), fun t => rfl, fun Post hK => Or.inl ⟨fs_isc_of h1, ?_⟩⟩
      have e : nuv (nI b) (lN d) = FP.ddiv (FP.l2d (lN d)) (FP.l2d (lN (10 ^ b))) := by
        unfold nuv
        rw [nI_clamp (by omega), pw10_eq b h0]
      have hb : nb (FP.ddiv (FP.l2d (lN d)) (FP.l2d (lN (10 ^ b)))) := nb_num h0' (Nat.pow_pos (by omega)) (by
        have : 10 ^ b ≤ 10 ^ 4 := Nat.pow_le_pow_right (by omega) h0
        omega)
      refine fs_gl_of h1 rfl ⟨fs_isc_of h1, b + 1, ?_⟩
      refine nu_scale h1 h0 (show fs_kl _ _ _ _ from ?_) b 0 (by omega)
      refine fs_kl_of ⟨nn_n64 hb.nn, ?_⟩
      rw [e] at hK
      exact hK _ h gf (vrel.ok hb) gx.rf hg
    · obtain ⟨x, h1, h2⟩ := a
      subst h2
      obtain ⟨cf, rf, c, w, lo, i, g, k1, k2, k3, k4⟩ := h1
      refine ⟨rfv (cvC bf vf) x, fun t => rfl, fun Post hK => Or.inr (Or.inl ⟨fs_isc_of k1, ?_⟩)⟩
      refine fs_gi_of k1 rfl ?_
      rcases k3.2 with ⟨l1, l2⟩ | ⟨l1, C, W, A, B, m1, m2, m3, m4, m5, m6, m7, m8, m9⟩
      · rw [if_neg (by rw [l1]; decide)]
        refine hK _ h gf ?_ gx.rf hg
        unfold rfv
        rw [l2, if_neg (by rw [rf_512]; decide)]
        exact vrel.bad
      · rw [if_pos l1]
        obtain ⟨d1, d2, d3⟩ := rf_dec C m1 W m2 A m3 B m4
        obtain ⟨c1, c2, c3⟩ := cell80 m1 m2
        have hcell : ∀ Q : fs_Ps, Q (.inl (some (.int (nI (W * 8 + C))))) h → w_RE_cell E h r Q := by
          intro Q hQ
          refine fs_gi_of k1 rfl (fs_gi_of k1 rfl ?_)
          rw [m8, m7, c1]
          exact hQ
        have hv : rfv (cvC bf vf) x = cvd (cvC bf vf C W) := by
          unfold rfv
          rw [m9, d1, d2, d3, if_pos rfl]
        rw [hv] at hK
        refine fs_gr_of hc.1 rfl ⟨fs_isc_of k1, hcell _ (fs_ki_of ?_)⟩
        refine fs_ai_of hc.2.1 c2 ?_
        rw [c3]
        unfold cvC at hK
        by_cases hb : bf (W * 8 + C) = 0
        · rw [if_pos hb]
          rw [if_pos hb] at hK
          exact hK _ h gf (vrel.ok nb_0) gx.rf hg
        · rw [if_neg hb]
          rw [if_neg hb] at hK
          refine fs_gr_of hc.1 rfl ⟨fs_isc_of k1, hcell _ (fs_ki_of ?_)⟩
          refine fs_ad_of hc.2.2.1 c2 ?_
          rw [c3]
          exact hK _ h gf (vrel.ck (hc.2.2.2.2 _ (by omega))) gx.rf hg
    · obtain ⟨s, w, i, q1, g, L1, F1, h1, h2, h3, h4, h5, h6, h7⟩ := a
      subst h6
      obtain ⟨v, e1, e2⟩ := hself gx.rf ⟨gf, hg⟩ h4
      have hw : ∀ t, ev1 (cvC bf vf) (w, 0, 0, 0) (v :: t) = v.map (pv1 w) :: t := by
        intro t
        rcases h5 with ⟨_, rfl⟩ | ⟨_, rfl⟩ <;> rfl
      refine ⟨v.map (pv1 w), fun t => by rw [evs_app, e1, evs_one, hw], fun Post hK => Or.inr (Or.inr (Or.inl ⟨fs_isc_of h1, ?_⟩))⟩
      refine fs_gr_of h1 rfl (fs_aq_of h2 (nI_in (c := 0) (by omega) (by omega)) ?_)
      rw [show (Int32.toNatClampNeg 0) = 0 from rfl, h3]
      refine e2 _ fun d h' gf' hd hx hg' => fs_kd_of (isBad_v hd (fun hb hv => fs_ki_of ?_) (fun hv => fs_ki_of ?_))
      · rw [if_pos rfl]
        refine fs_gi_of ((hx r (hg.ne h1)).trans h1) rfl ?_
        rw [hv] at hK
        rcases h5 with ⟨rfl, rfl⟩ | ⟨rfl, rfl⟩
        · rw [if_neg (by decide)]
          refine isNaN_no hb.nn (fs_ki_of ?_)
          rw [if_pos rfl]
          exact hK _ h' gf' (vrel.ok (nb_neg hb)) hx hg'
        · rw [if_pos rfl]
          have e3 : pv1 33 d = if Op.cmpValue (FP.dcmp d FP.dconst0) .l = 0 then FP.dconst1 else FP.dconst0 := rfl
          have hK' : wK E ga h (some (pv1 33 d)) Post := hK
          rw [e3] at hK'
          split
          · next hz => rw [if_pos hz] at hK'; exact hK' _ h' gf' (vrel.ok nb_1) hx hg'
          · next hz => rw [if_neg hz] at hK'; exact hK' _ h' gf' (vrel.ok nb_0) hx hg'
      · rw [if_neg (by decide)]
        rw [hv] at hK
        exact hK _ h' gf' vrel.bad hx hg'
    · obtain ⟨s, i, q1, q2, g, L1, L2, F1, F2, h1, h2, h3, h4, h5, h6, h7, h8, h9⟩ := a
      subst h8
      obtain ⟨v1, e1, e2⟩ := hself gx.rf ⟨gf, hg⟩ h5
      obtain ⟨v2, f1, _⟩ := hself gx.rf ⟨gf, hg⟩ h6
      refine ⟨pv2o s v1 v2, fun t => by rw [evs_app, evs_app, e1, f1, evs_one, ev1_pair h7], fun Post hK => Or.inr (Or.inr (Or.inr (Or.inl ⟨fs_isc_of h1, ?_⟩)))⟩
      refine fs_gr_of h1 rfl (fs_aq_of h2 (nI_in (c := 0) (by omega) (by omega)) ?_)
      rw [show (Int32.toNatClampNeg 0) = 0 from rfl, h3]
      refine e2 _ fun d h' gf' hd hx hg' => fs_kd_of ?_
      have hr' := (hx r (hg.ne h1)).trans h1
      refine fs_gr_of hr' rfl (fs_aq_of ((hx i (hg.neR h2)).trans h2) (nI_in (c := 1) (by omega) (by omega)) ?_)
      rw [show (Int32.toNatClampNeg 1) = 1 from rfl, h4]
      obtain ⟨v2', f1', f2⟩ := hself hx ⟨gf', hg'⟩ h6
      have ev : v2' = v2 := by
        have := (f1' []).symm.trans (f1 [])
        exact (List.cons.inj this).1
      subst ev
      refine f2 _ fun y h'' gf'' hy hx2 hg'' => fs_kd_of ?_
      have hx3 := hx.trans hx2
      have hr'' := (hx3 r (hg.ne h1)).trans h1
      have hJ : (s = 42 ∨ s = 43 ∨ s = 45 ∨ s = 47) → w_PA_worth_J41 (w_N_worth n) E Post r d y h'' := by
        intro hs
        unfold w_PA_worth_J41
        exact fs_gi_of hr'' rfl (worked hs hd hy fun z hz => fs_kd_of (hK z h'' gf'' hz hx3 hg''))
      refine ⟨fs_isc_of hr'', pa_rulw hr'' (fun hs => fs_ki_of ?_) (fun hs => fs_ki_of ?_) (fun hs q hq => fs_ki_of ?_)⟩
      · rw [if_pos rfl]
        exact hJ (hs.elim (fun z => Or.inr (Or.inl z)) (fun z => Or.inr (Or.inr (Or.inl z))))
      · rw [if_neg (by decide), if_pos rfl]
        exact hJ (hs.elim Or.inl (fun z => Or.inr (Or.inr (Or.inr z))))
      · have k2 : ¬ q = 2 := by rcases hq with rfl | rfl <;> decide
        have k3 : ¬ q = 3 := by rcases hq with rfl | rfl <;> decide
        rw [if_neg k2, if_neg k3]
        refine isBad_v hd (fun hb hv => fs_ki_of ?_) (fun hv => fs_ki_of ?_)
        · rw [if_pos rfl]
          refine isBad_v hy (fun hb2 hv2 => fs_ki_of ?_) (fun hv2 => fs_ki_of ?_)
          · rw [if_pos rfl]
            rw [hv, hv2] at hK
            have hK' : wK E ga h (pv2 s d y) Post := hK
            have e : pv2 s d y = some (p_MO_truth (pvh s d y)) := by
              unfold pv2
              rw [if_neg (fun z => hs (Or.inl z)), if_neg (fun z => hs (Or.inr (Or.inl z))), if_neg (fun z => hs (Or.inr (Or.inr (Or.inl z)))), if_neg (fun z => hs (Or.inr (Or.inr (Or.inr z))))]
            rw [e] at hK'
            refine ⟨fs_isc_of hr'', pa_holds hr'' (fs_ki_of ?_)⟩
            unfold p_MO_truth at hK'
            split
            · next hz => rw [if_pos hz] at hK'; exact hK' _ h'' gf'' (vrel.ok nb_0) hx3 hg''
            · next hz => rw [if_neg hz] at hK'; exact hK' _ h'' gf'' (vrel.ok nb_1) hx3 hg''
          · rw [if_neg (by decide)]
            rw [hv, hv2] at hK
            exact hK _ h'' gf'' vrel.bad hx3 hg''
        · rw [if_neg (by decide)]
          rw [hv] at hK
          exact hK _ h'' gf'' vrel.bad hx3 hg''
    · obtain ⟨j, i, q1, g, L1, F1, h0, h1, h2, h3, h4, h5, h6⟩ := a
      subst h5
      obtain ⟨v, e1, e2⟩ := hself gx.rf ⟨gf, hg⟩ h4
      have hw : ∀ t, ev1 (cvC bf vf) (nI (j + 2), 0, 0, 0) (v :: t) = v.map (pv1 (nI (j + 2))) :: t := by
        intro t
        rcases h0 with rfl | rfl <;> rfl
      refine ⟨v.map (pv1 (nI (j + 2))), fun t => by rw [evs_app, e1, evs_one, hw], fun Post hK => Or.inr (Or.inr (Or.inr (Or.inr (Or.inl ⟨fs_isc_of h1, ?_⟩))))⟩
      refine fs_gr_of h1 rfl (fs_aq_of h2 (nI_in (c := 0) (by omega) (by omega)) ?_)
      rw [show (Int32.toNatClampNeg 0) = 0 from rfl, h3]
      refine e2 _ fun d h' gf' hd hx hg' => fs_kd_of (isBad_v hd (fun hb hv => fs_ki_of ?_) (fun hv => fs_ki_of ?_))
      · rw [if_pos rfl]
        have hr' := (hx r (hg.ne h1)).trans h1
        refine fs_gr_of hr' rfl ?_
        rw [hv] at hK
        have hK' : wK E ga h (some (pv1 (nI (j + 2)) d)) Post := hK
        rw [if_neg (fun e => by have := hE j 7 (by omega) (by omega) e; omega)]
        refine fs_gr_of hr' rfl ?_
        rcases h0 with rfl | rfl
        · rw [if_neg (fun e => by have := hE 5 6 (by omega) (by omega) e; omega)]
          have e3 : pv1 (nI (5 + 2)) d = if 0 ≤ Op.cmpValue (FP.dcmp d FP.dconst0) .g then d else FP.dneg d := rfl
          rw [e3] at hK'
          split
          · next hz => rw [if_pos hz] at hK'; exact hK' _ h' gf' (vrel.ok hb) hx hg'
          · next hz => rw [if_neg hz] at hK'; exact hK' _ h' gf' (vrel.ok (nb_neg hb)) hx hg'
        · rw [if_pos rfl]
          exact hK' _ h' gf' (vrel.ok (nb_trunc hb)) hx hg'
      · rw [if_neg (by decide)]
        rw [hv] at hK
        exact hK _ h' gf' vrel.bad hx hg'
    · obtain ⟨i, q1, q2, q3, g, L1, L2, L3, F1, F2, F3, h1, h2, h3, h4, h5, h6, h7, h8, h9, h10⟩ := a
      subst h9
      obtain ⟨v1, e1, e2⟩ := hself gx.rf ⟨gf, hg⟩ h6
      obtain ⟨v2, f1, _⟩ := hself gx.rf ⟨gf, hg⟩ h7
      obtain ⟨v3, g1, _⟩ := hself gx.rf ⟨gf, hg⟩ h8
      refine ⟨ifv v1 v2 v3, fun t => by rw [evs_app, evs_app, evs_app, e1, f1, g1]; rfl, fun Post hK => Or.inr (Or.inr (Or.inr (Or.inr (Or.inl ⟨fs_isc_of h1, ?_⟩))))⟩
      refine fs_gr_of h1 rfl (fs_aq_of h2 (nI_in (c := 0) (by omega) (by omega)) ?_)
      rw [show (Int32.toNatClampNeg 0) = 0 from rfl, h3]
      refine e2 _ fun d h' gf' hd hx hg' => fs_kd_of (isBad_v hd (fun hb hv => fs_ki_of ?_) (fun hv => fs_ki_of ?_))
      · rw [if_pos rfl]
        have hr' := (hx r (hg.ne h1)).trans h1
        refine fs_gr_of hr' rfl ?_
        rw [if_pos rfl]
        refine fs_gr_of hr' rfl ?_
        rw [hv] at hK
        have hK' : wK E ga h (if Op.cmpValue (FP.dcmp d FP.dconst0) .l = 0 then v3 else v2) Post := hK
        have hi' := (hx i (hg.neR h2)).trans h2
        by_cases hz : Op.cmpValue (FP.dcmp d FP.dconst0) .l = 0
        · rw [if_pos hz]
          rw [if_pos hz] at hK'
          unfold w_CA_worth_J47
          refine fs_aq_of hi' (nI_in (c := 2) (by omega) (by omega)) ?_
          rw [show (Int32.toNatClampNeg 2) = 2 from rfl, h5]
          obtain ⟨v', f1', f2⟩ := hself hx ⟨gf', hg'⟩ h8
          have ev : v' = v3 := (List.cons.inj ((f1' []).symm.trans (g1 []))).1
          subst ev
          exact f2 _ fun y h'' gf'' hy hx2 hg'' => fs_kd_of (hK' y h'' gf'' hy (hx.trans hx2) hg'')
        · rw [if_neg hz]
          rw [if_neg hz] at hK'
          unfold w_CA_worth_J47
          refine fs_aq_of hi' (nI_in (c := 1) (by omega) (by omega)) ?_
          rw [show (Int32.toNatClampNeg 1) = 1 from rfl, h4]
          obtain ⟨v', f1', f2⟩ := hself hx ⟨gf', hg'⟩ h7
          have ev : v' = v2 := (List.cons.inj ((f1' []).symm.trans (f1 []))).1
          subst ev
          exact f2 _ fun y h'' gf'' hy hx2 hg'' => fs_kd_of (hK' y h'' gf'' hy (hx.trans hx2) hg'')
      · rw [if_neg (by decide)]
        rw [hv] at hK
        exact hK _ h' gf' vrel.bad hx hg'
    · obtain ⟨j, a, b, i, g, x, y, Fa, Fb, h0, h1, h2, h3, h4, h5, h6, h7, h8⟩ := a
      subst h7
      refine ⟨rgv (cvC bf vf) (nI (j + 2)) x y, fun t => ?_, fun Post hK => Or.inr (Or.inr (Or.inr (Or.inr (Or.inr ⟨fs_isc_of h1, ?_⟩))))⟩
      · have : j = 0 ∨ j = 1 ∨ j = 2 ∨ j = 3 ∨ j = 4 := by omega
        rcases this with rfl | rfl | rfl | rfl | rfl <;> rfl
      · obtain ⟨cf, rf, c, w, lo, ia, ga1, k1, k2, k3, k4⟩ := h5
        obtain ⟨cf', rf', c', w', lo', ib, gb1, k1', k2', k3', k4'⟩ := h6
        rcases k3.2 with ⟨l1, l2⟩ | ⟨l1, C, W, A, B, m1, m2, m3, m4, m5, m6, m7, m8, m9⟩
        · refine ⟨fs_isc_of h1, fs_gr_of h1 rfl (fs_gi_of k1 rfl ?_)⟩
          rw [if_neg (by rw [l1]; decide)]
          refine fs_ki_of ?_
          rw [if_neg (by decide)]
          refine hK _ h gf ?_ gx.rf hg
          unfold rgv
          rw [l2, if_neg (by rw [rf_512]; decide)]
          exact vrel.bad
        · rcases k3'.2 with ⟨l1', l2'⟩ | ⟨l1', C', W', A', B', m1', m2', m3', m4', m5', m6', m7', m8', m9'⟩
          · refine ⟨fs_isc_of h1, fs_gr_of h1 rfl (fs_gi_of k1 rfl ?_)⟩
            rw [if_pos l1]
            refine fs_gr_of h1 rfl (fs_gi_of k1' rfl ?_)
            rw [if_neg (by rw [l1']; decide)]
            refine fs_ki_of ?_
            rw [if_neg (by decide)]
            refine hK _ h gf ?_ gx.rf hg
            unfold rgv
            rw [l2', m9, (rf_dec C m1 W m2 A m3 B m4).2.2, if_pos rfl, if_neg (by rw [rf_512]; decide)]
            exact vrel.bad
          · have ho : ovF E h r a b j C W C' W' := ⟨i, ia, ib, cf, rf, cf', rf', h1, by rw [← m7, ← m8, ← l1]; exact k1, by rw [← m7', ← m8', ← l1']; exact k1'⟩
            refine cls_ov hE h0 hc hg ho m1 m1' m2 m2' ?_
            obtain ⟨d1, d2, d3⟩ := rf_dec C m1 W m2 A m3 B m4
            obtain ⟨d1', d2', d3'⟩ := rf_dec C' m1' W' m2' A' m3' B' m4'
            unfold rgv rgV at hK
            rw [m9, m9', d3, d3', if_pos rfl, if_pos rfl, d1, d2, d1', d2'] at hK
            exact hK
