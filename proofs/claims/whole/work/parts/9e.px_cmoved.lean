/-! Pure: the class copies a formula, whole. -/
theorem isP_up {h : fs_Hp} {q a : Nat} {e : va_E} (hq : fs_isP h q) (ha : h a = none) : fs_isP (fs_up h a e) q := by
  obtain ⟨c, fs, e1, e2⟩ := fs_isP_some hq
  exact fs_isP_of (fs_up_at (fun z => by rw [z, ha] at e1; cases e1) e1) e2
theorem mvF.two {h h1 : fs_Hp} {r i : Nat} {F F' G : List Nat} (e : ext h h1) (a : mvF h F F') (hs : ∀ q ∈ F', h1 q ≠ none) (hr : h1 r = none) (hi : h1 i = none) (hne : r ≠ i) (hG : ∀ q ∈ F, q ∈ G) : mvF h G (r :: i :: F') := by
  refine ⟨List.nodup_cons.mpr ⟨?_, List.nodup_cons.mpr ⟨fun z => hs i z hi, a.1⟩⟩, fun q hq => ?_⟩
  · intro z
    rcases List.mem_cons.mp z with z | z
    · exact hne z
    · exact hs r z hr
  · simp only [List.mem_cons] at hq
    rcases hq with rfl | rfl | hq
    · exact Or.inl (e.nn0 hr)
    · exact Or.inl (e.nn0 hi)
    · rcases a.2 q hq with z | ⟨z, w⟩
      · exact Or.inl z
      · exact Or.inr ⟨hG q z, w⟩
theorem tr_rf.not3 {E : fs_E} {h : fs_Hp} {r : Nat} {x : Int32} {F : List Nat} (t : tr_rf E h r x F) : ∀ q ∈ F, h q ≠ none := by
  obtain ⟨cf, rf, c, w, lo, i, g, h1, h2, h3, rfl⟩ := t
  intro q hq
  simp only [List.mem_cons, List.not_mem_nil, or_false] at hq
  rcases hq with rfl | rfl
  · rw [h1]; exact fun z => by cases z
  · unfold tr_in at h2; rw [h2]; exact fun z => by cases z
theorem cls_moved (dx dy : Int32) (E : fs_E) : ∀ n mm : Nat, n ≤ mm → mvRec n mm E dx dy := by
  intro n
  induction n with
  | zero => intro mm _ h q mc ms L F Post a; exact a.elim
  | succ n ih' =>
    intro mm hmm h r mc ms L F Post a nd hmc hms K
    obtain ⟨mm, rfl⟩ : ∃ q, mm = q + 1 := ⟨mm - 1, by omega⟩
    have ih : mvRec n mm E dx dy := ih' mm (by omega)
    rw [w_N_moved]
    unfold w_V_moved
    rcases a with a | a | a | a | a | a | a
    · obtain ⟨b, d, i, g, h0, h0', h1, h2, rfl, rfl⟩ := a
      refine Or.inl ⟨fs_isc_of h1, mv_PT (T := []) (by decide) rfl (fun a b c d e => ih a b c d e) h1 h2 rfl (by omega) (by rw [List.length_singleton] at hmc; show 6 * 0 + 1 ≤ mc; omega) (by rw [List.length_singleton] at hms; show 20 * 0 + 3 ≤ ms; omega) trivial List.nodup_nil ?_⟩
      intro h' g' T' z3 bc bs b1 b2 b3 b4 b5 b6 b7 b8 b9 b10
      have e1 := b5 r (by rw [h1]; exact fun z => by cases z)
      refine ⟨0, 0, by omega, by omega, Or.inl ⟨fs_isc_of (e1.trans h1), fs_kr_of (K h' r [r, i] ?_ b5 ⟨nd, fun q hq => Or.inr ⟨hq, fun fs z => ?_⟩⟩)⟩⟩
      · exact Or.inl ⟨b, d, i, g, h0, h0', e1.trans h1, h2.kept (b5 i (by unfold tr_in at h2; rw [h2]; exact fun z => by cases z)), rfl, rfl⟩
      · simp only [List.mem_cons, List.not_mem_nil, or_false] at hq
        rcases hq with rfl | rfl
        · rw [h1] at z; cases z
        · unfold tr_in at h2; rw [h2] at z; cases z
    · obtain ⟨x, t, rfl⟩ := a
      rw [List.length_singleton] at hmc hms
      have hisc : fs_isc h r 5 := by
        obtain ⟨cf, rf, c, w, lo, i, g, h1, _⟩ := t
        exact fs_isc_of h1
      refine Or.inr (Or.inl ⟨hisc, mc, ms, Nat.le_refl _, Nat.le_refl _, hisc, re_moved t (by omega) (by omega) fun h' r' i' a1 a2 a3 a4 a5 => fs_kr_of (K h' r' [r', i'] (Or.inr (Or.inl ⟨_, a4, rfl⟩)) a5 ⟨by simp [a3], fun q hq => Or.inl ?_⟩)⟩)
      simp only [List.mem_cons, List.not_mem_nil, or_false] at hq
      rcases hq with rfl | rfl
      · exact a1
      · exact a2
    · obtain ⟨s, w, i, q1, g, L1, F1, h1, h2, h3, h4, h5, rfl, rfl⟩ := a
      rw [List.length_append, List.length_singleton] at hmc hms
      have nd1 := (List.nodup_cons.mp (List.nodup_cons.mp nd).2).2
      have hkL : kL [(q1, L1, F1)] = L1 := List.append_nil _
      have hkF : kF [(q1, L1, F1)] = F1 := List.append_nil _
      refine Or.inr (Or.inr (Or.inl ⟨fs_isc_of h1, mv_PT (T := [(q1, L1, F1)]) (by decide) rfl (fun a b c d e => ih a b c d e) h1 h2 rfl (by omega) (by rw [hkL]; omega) (by rw [hkL]; omega) ⟨h3, h4, trivial⟩ (by rw [hkF]; exact nd1) ?_⟩))
      intro h' g' T' z3 bc bs b1 b2 b3 b4 b5 b6 b7 b8 b9 b10
      rw [hkL] at b1 b2
      match T', b3, b4, b8, b9, b10 with
      | [x], _, b4, b8, b9, b10 =>
        rw [hkL, show kL [x] = x.2.1 from List.append_nil _] at b4
        rw [hkF, show kF [x] = x.2.2 from List.append_nil _] at b10
        have e1 := (b5 r (by rw [h1]; exact fun z => by cases z)).trans h1
        have hc : narrow .char (.int s) = .int s ∧ fits .char (.int s) = true := by
          rcases h5 with ⟨rfl, -⟩ | ⟨rfl, -⟩
          · exact tr_char (c := 45) (by decide)
          · exact tr_char (c := 33) (by decide)
        refine ⟨2, 3, by omega, by omega, Or.inr (Or.inr (Or.inl ⟨fs_isc_of e1, by omega, by omega, fun a ha => ?_⟩))⟩
        have hra : r ≠ a := fun z => by rw [z, ha] at e1; cases e1
        have hza : z3 ≠ a := fun z => by unfold tr_in at b7; rw [z, ha] at b7; cases b7
        refine fs_gi_of (fs_up_at hra e1) rfl (fs_aq_of (fs_up_at hza b7) (show vp_in (nI 0) 1 from nI_in (by omega) (by omega)) ?_)
        rw [vp_nar0, b8.1]
        try dsimp only
        refine ⟨1, 1, by omega, by omega, mk_SI fs_up_self (by omega) (by omega) (isP_up b8.2.1.isP ha) hc fun i' g2 h2' hi hne e2 e3 e4 e5 => fs_kv_of (fs_kr_of ?_)⟩
        have he := mk_ext ha hi e5
        refine K h2' a (a :: i' :: x.2.2) ?_ (b5.trans he) (mvF.two b5 b10 (b8.2.1.some n) ha (up_none hi).2 (Ne.symm hne) fun q hq => by simp [hq])
        rw [List.map_append, List.map_cons, List.map_nil, show itM dx dy (w, 0, 0, 0) = (w, 0, 0, 0) from itsh_tl _ _ (by rcases h5 with ⟨_, rfl⟩ | ⟨_, rfl⟩ <;> exact Or.inr (by decide)), ← b4]
        exact Or.inr (Or.inr (Or.inl ⟨s, w, i', x.1, g2, x.2.1, x.2.2, e2, e3, e4, b8.2.1.kept n fun q hq => he q (b8.2.1.some n q hq), h5, rfl, rfl⟩))
    · obtain ⟨s, i, q1, q2, g, L1, L2, F1, F2, h1, h2, h3, h4, h5, h6, h7, rfl, rfl⟩ := a
      rw [List.length_append, List.length_append, List.length_singleton] at hmc hms
      have nd1 := (List.nodup_cons.mp (List.nodup_cons.mp nd).2).2
      have hkL : kL [(q1, L1, F1), (q2, L2, F2)] = L1 ++ L2 := by rw [kL, kL, kL, List.append_nil]
      have hkF : kF [(q1, L1, F1), (q2, L2, F2)] = F1 ++ F2 := by rw [kF, kF, kF, List.append_nil]
      refine Or.inr (Or.inr (Or.inr (Or.inl ⟨fs_isc_of h1, mv_PT (T := [(q1, L1, F1), (q2, L2, F2)]) (by decide) rfl (fun a b c d e => ih a b c d e) h1 h2 rfl (by omega) (by rw [hkL, List.length_append]; omega) (by rw [hkL, List.length_append]; omega) ⟨h3, h5, h4, h6, trivial⟩ (by rw [hkF]; exact nd1) ?_⟩)))
      intro h' g' T' z3 bc bs b1 b2 b3 b4 b5 b6 b7 b8 b9 b10
      rw [hkL, List.length_append] at b1 b2
      match T', b3, b4, b8, b9, b10 with
      | [x, y], _, b4, b8, b9, b10 =>
        rw [hkL, show kL [x, y] = x.2.1 ++ y.2.1 by rw [kL, kL, kL, List.append_nil]] at b4
        rw [hkF, show kF [x, y] = x.2.2 ++ y.2.2 by rw [kF, kF, kF, List.append_nil]] at b10
        have e1 := (b5 r (by rw [h1]; exact fun z => by cases z)).trans h1
        have hc : narrow .char (.int s) = .int s ∧ fits .char (.int s) = true := by
          rcases h7 with rfl | rfl | rfl | rfl | rfl | rfl | rfl | rfl | rfl | rfl
          · exact tr_char (c := 38) (by decide)
          · exact tr_char (c := 124) (by decide)
          · exact tr_char (c := 61) (by decide)
          · exact tr_char (c := 35) (by decide)
          · exact tr_char (c := 60) (by decide)
          · exact tr_char (c := 62) (by decide)
          · exact tr_char (c := 43) (by decide)
          · exact tr_char (c := 45) (by decide)
          · exact tr_char (c := 42) (by decide)
          · exact tr_char (c := 47) (by decide)
        refine ⟨2, 4, by omega, by omega, Or.inr (Or.inr (Or.inr (Or.inl ⟨fs_isc_of e1, by omega, by omega, fun a ha => ?_⟩)))⟩
        have hra : r ≠ a := fun z => by rw [z, ha] at e1; cases e1
        have hza : z3 ≠ a := fun z => by unfold tr_in at b7; rw [z, ha] at b7; cases b7
        refine fs_gi_of (fs_up_at hra e1) rfl (fs_aq_of (fs_up_at hza b7) (show vp_in (nI 0) 2 from nI_in (by omega) (by omega)) ?_)
        rw [vp_nar0, b8.1]
        try dsimp only
        refine fs_aq_of (fs_up_at hza b7) (show vp_in (nI 1) 2 from nI_in (by omega) (by omega)) ?_
        rw [vp_nar1, show g' 1 = some y.1 from b8.2.2.1]
        try dsimp only
        refine ⟨1, 2, by omega, by omega, mk_PA fs_up_self (by omega) (by omega) (isP_up b8.2.1.isP ha) (isP_up b8.2.2.2.1.isP ha) hc fun i' g2 h2' hi hne e2 e3 e4 e4' e5 => fs_kv_of (fs_kr_of ?_)⟩
        have he := mk_ext ha hi e5
        have hsm : ∀ q ∈ x.2.2 ++ y.2.2, h' q ≠ none := by
          intro q hq
          rcases List.mem_append.mp hq with hq | hq
          · exact b8.2.1.some n q hq
          · exact b8.2.2.2.1.some n q hq
        refine K h2' a (a :: i' :: (x.2.2 ++ y.2.2)) ?_ (b5.trans he) (mvF.two b5 b10 hsm ha (up_none hi).2 (Ne.symm hne) fun q hq => List.mem_cons_of_mem _ (List.mem_cons_of_mem _ hq))
        rw [List.map_append, List.map_cons, List.map_nil, show itM dx dy (s, 0, 0, 0) = (s, 0, 0, 0) from itsh_tl _ _ (by rcases h7 with rfl | rfl | rfl | rfl | rfl | rfl | rfl | rfl | rfl | rfl <;> exact Or.inr (by decide)), ← b4]
        exact Or.inr (Or.inr (Or.inr (Or.inl ⟨s, i', x.1, y.1, g2, x.2.1, y.2.1, x.2.2, y.2.2, e2, e3, e4, e4', b8.2.1.kept n fun q hq => he q (b8.2.1.some n q hq), b8.2.2.2.1.kept n fun q hq => he q (b8.2.2.2.1.some n q hq), h7, rfl, rfl⟩)))
    · obtain ⟨j, i, q1, g, L1, F1, h0, h1, h2, h3, h4, rfl, rfl⟩ := a
      rw [List.length_append, List.length_singleton] at hmc hms
      have nd1 := (List.nodup_cons.mp (List.nodup_cons.mp nd).2).2
      have hkL : kL [(q1, L1, F1)] = L1 := List.append_nil _
      have hkF : kF [(q1, L1, F1)] = F1 := List.append_nil _
      refine Or.inr (Or.inr (Or.inr (Or.inr (Or.inl ⟨fs_isc_of h1, mv_PT (T := [(q1, L1, F1)]) (by decide) rfl (fun a b c d e => ih a b c d e) h1 h2 rfl (by omega) (by rw [hkL]; omega) (by rw [hkL]; omega) ⟨h3, h4, trivial⟩ (by rw [hkF]; exact nd1) ?_⟩))))
      intro h' g' T' z3 bc bs b1 b2 b3 b4 b5 b6 b7 b8 b9 b10
      rw [hkL] at b1 b2
      match T', b3, b4, b8, b9, b10 with
      | [x], _, b4, b8, b9, b10 =>
        rw [hkL, show kL [x] = x.2.1 from List.append_nil _] at b4
        rw [hkF, show kF [x] = x.2.2 from List.append_nil _] at b10
        rw [show kF [x] = x.2.2 from List.append_nil _] at b9
        have e1 := (b5 r (by rw [h1]; exact fun z => by cases z)).trans h1
        refine ⟨1, 2, by omega, by omega, Or.inr (Or.inr (Or.inr (Or.inr (Or.inl ⟨fs_isc_of e1, by omega, by omega, fun a ha => ?_⟩))))⟩
        have hra : r ≠ a := fun z => by rw [z, ha] at e1; cases e1
        have hza : z3 ≠ a := fun z => by unfold tr_in at b7; rw [z, ha] at b7; cases b7
        refine fs_gr_of (fs_up_at hra e1) rfl (mk_CA fs_up_self (fs_kv_of (fs_kr_of ?_)))
        have he : ext h' (fs_up (fs_up (fs_up h' a (.inr (8, [.null, .null]))) a (.inr (8, [.null, .ref z3]))) a (.inr (8, [.ref (E.2 j), .ref z3]))) := fun q hq => by
          have qa : q ≠ a := fun z => hq (z ▸ ha)
          rw [fs_up_ne qa, fs_up_ne qa, fs_up_ne qa]
        refine K _ a (a :: z3 :: x.2.2) ?_ (b5.trans he) ⟨List.nodup_cons.mpr ⟨fun z => ?_, List.nodup_cons.mpr ⟨b9, b10.1⟩⟩, fun q hq => ?_⟩
        · rw [List.map_append, List.map_cons, List.map_nil, show itM dx dy (nI (j + 2), 0, 0, 0) = (nI (j + 2), 0, 0, 0) from itsh_tl _ _ (by rcases h0 with rfl | rfl <;> exact Or.inr (by decide)), ← b4]
          exact Or.inr (Or.inr (Or.inr (Or.inr (Or.inl ⟨j, z3, x.1, g', x.2.1, x.2.2, h0, fs_up_self, b7.kept (he z3 (by unfold tr_in at b7; rw [b7]; exact fun z => by cases z)), b8.1, b8.2.1.kept n fun q hq => he q (b8.2.1.some n q hq), rfl, rfl⟩))))
        · rcases List.mem_cons.mp z with z | z
          · exact hza z.symm
          · exact b8.2.1.some n a z ha
        · simp only [List.mem_cons] at hq
          rcases hq with rfl | rfl | hq
          · exact Or.inl (b5.nn0 ha)
          · exact Or.inl b6
          · rcases b10.2 q hq with z | ⟨z, w⟩
            · exact Or.inl z
            · exact Or.inr ⟨by simp [z], w⟩
    · obtain ⟨i, q1, q2, q3, g, L1, L2, L3, F1, F2, F3, h1, h2, h3, h4, h5, h6, h7, h8, rfl, rfl⟩ := a
      rw [List.length_append, List.length_append, List.length_append, List.length_singleton] at hmc hms
      have nd1 := (List.nodup_cons.mp (List.nodup_cons.mp nd).2).2
      have hkL : kL [(q1, L1, F1), (q2, L2, F2), (q3, L3, F3)] = L1 ++ L2 ++ L3 := by rw [kL, kL, kL, kL, List.append_nil, List.append_assoc]
      have hkF : kF [(q1, L1, F1), (q2, L2, F2), (q3, L3, F3)] = F1 ++ F2 ++ F3 := by rw [kF, kF, kF, kF, List.append_nil, List.append_assoc]
      refine Or.inr (Or.inr (Or.inr (Or.inr (Or.inl ⟨fs_isc_of h1, mv_PT (T := [(q1, L1, F1), (q2, L2, F2), (q3, L3, F3)]) (by decide) rfl (fun a b c d e => ih a b c d e) h1 h2 rfl (by omega) (by rw [hkL, List.length_append, List.length_append]; omega) (by rw [hkL, List.length_append, List.length_append]; omega) ⟨h3, h6, h4, h7, h5, h8, trivial⟩ (by rw [hkF]; exact nd1) ?_⟩))))
      intro h' g' T' z3 bc bs b1 b2 b3 b4 b5 b6 b7 b8 b9 b10
      rw [hkL, List.length_append, List.length_append] at b1 b2
      match T', b3, b4, b8, b9, b10 with
      | [x, y, u], _, b4, b8, b9, b10 =>
        rw [hkL, show kL [x, y, u] = x.2.1 ++ y.2.1 ++ u.2.1 by rw [kL, kL, kL, kL, List.append_nil, List.append_assoc]] at b4
        have hkF' : kF [x, y, u] = x.2.2 ++ y.2.2 ++ u.2.2 := by rw [kF, kF, kF, kF, List.append_nil, List.append_assoc]
        rw [hkF, hkF'] at b10
        rw [hkF'] at b9
        have e1 := (b5 r (by rw [h1]; exact fun z => by cases z)).trans h1
        refine ⟨1, 2, by omega, by omega, Or.inr (Or.inr (Or.inr (Or.inr (Or.inl ⟨fs_isc_of e1, by omega, by omega, fun a ha => ?_⟩))))⟩
        have hra : r ≠ a := fun z => by rw [z, ha] at e1; cases e1
        have hza : z3 ≠ a := fun z => by unfold tr_in at b7; rw [z, ha] at b7; cases b7
        refine fs_gr_of (fs_up_at hra e1) rfl (mk_CA fs_up_self (fs_kv_of (fs_kr_of ?_)))
        have he : ext h' (fs_up (fs_up (fs_up h' a (.inr (8, [.null, .null]))) a (.inr (8, [.null, .ref z3]))) a (.inr (8, [.ref (E.2 7), .ref z3]))) := fun q hq => by
          have qa : q ≠ a := fun z => hq (z ▸ ha)
          rw [fs_up_ne qa, fs_up_ne qa, fs_up_ne qa]
        have hsm : ∀ q ∈ x.2.2 ++ y.2.2 ++ u.2.2, h' q ≠ none := by
          intro q hq
          rcases List.mem_append.mp hq with hq | hq
          · rcases List.mem_append.mp hq with hq | hq
            · exact b8.2.1.some n q hq
            · exact b8.2.2.2.1.some n q hq
          · exact b8.2.2.2.2.2.1.some n q hq
        refine K _ a (a :: z3 :: (x.2.2 ++ y.2.2 ++ u.2.2)) ?_ (b5.trans he) ⟨List.nodup_cons.mpr ⟨fun z => ?_, List.nodup_cons.mpr ⟨b9, b10.1⟩⟩, fun q hq => ?_⟩
        · rw [List.map_append, List.map_cons, List.map_nil, show itM dx dy (9, 0, 0, 0) = (9, 0, 0, 0) from itsh_tl _ _ (Or.inr (show (7 : Int32) ≤ 9 by decide)), ← b4]
          exact Or.inr (Or.inr (Or.inr (Or.inr (Or.inr (Or.inl ⟨z3, x.1, y.1, u.1, g', x.2.1, y.2.1, u.2.1, x.2.2, y.2.2, u.2.2, fs_up_self, b7.kept (he z3 (by unfold tr_in at b7; rw [b7]; exact fun z => by cases z)), b8.1, b8.2.2.1, b8.2.2.2.2.1, b8.2.1.kept n fun q hq => he q (b8.2.1.some n q hq), b8.2.2.2.1.kept n fun q hq => he q (b8.2.2.2.1.some n q hq), b8.2.2.2.2.2.1.kept n fun q hq => he q (b8.2.2.2.2.2.1.some n q hq), rfl, rfl⟩)))))
        · rcases List.mem_cons.mp z with z | z
          · exact hza z.symm
          · exact hsm a z ha
        · simp only [List.mem_cons] at hq
          rcases hq with rfl | rfl | hq
          · exact Or.inl (b5.nn0 ha)
          · exact Or.inl b6
          · rcases b10.2 q hq with z | ⟨z, w⟩
            · exact Or.inl z
            · exact Or.inr ⟨List.mem_cons_of_mem _ (List.mem_cons_of_mem _ z), w⟩
    · obtain ⟨j, a, b, i, g, x, y, Fa, Fb, h0, h1, h2, h3, h4, ta, tb, rfl, rfl⟩ := a
      rw [List.length_singleton] at hmc hms
      refine Or.inr (Or.inr (Or.inr (Or.inr (Or.inr ⟨fs_isc_of h1, ?_⟩))))
      unfold w_OV_moved
      refine ⟨by omega, by omega, fun o ho => ?_⟩
      have hro : r ≠ o := fun z => by rw [z, ho] at h1; cases h1
      have hE1 : ext h (fs_up h o (.inr (9, [.null, .null, .null, .null]))) := ext.up ho
      have h1' := fs_up_at (e := .inr (9, [.null, .null, .null, .null])) hro h1
      have ta' := ta.kept fun q hq => hE1 q (ta.not3 q hq)
      have hisa : fs_isc (fs_up h o (.inr (9, [.null, .null, .null, .null]))) a 5 := by
        obtain ⟨cf, rf, c, w, lo, i, g, k1, _⟩ := ta'
        exact fs_isc_of k1
      refine fs_gr_of h1' rfl (fs_gr_of h1' rfl ⟨2, 6, by omega, by omega, hisa, re_moved ta' (by omega) (by omega) fun hA a' ia c1 c2 c3 c4 c5 => fs_kr_of ?_⟩)
      have h1A := (c5 r (by rw [h1']; exact fun z => by cases z)).trans h1'
      have tbA := tb.kept fun q hq => (hE1.trans c5) q (tb.not3 q hq)
      have hisb : fs_isc hA b 5 := by
        obtain ⟨cf, rf, c, w, lo, i, g, k1, _⟩ := tbA
        exact fs_isc_of k1
      refine fs_gr_of h1A rfl ⟨2, 6, by omega, by omega, hisb, re_moved tbA (by omega) (by omega) fun hB b' ib d1 d2 d3 d4 d5 => fs_kr_of ⟨1, 2, by omega, by omega, ?_⟩⟩
      have hoB : hB o = some (.inr (9, [.null, .null, .null, .null])) := (d5 o (by rw [c5 o (by rw [fs_up_self]; exact fun z => by cases z), fs_up_self]; exact fun z => by cases z)).trans ((c5 o (by rw [fs_up_self]; exact fun z => by cases z)).trans fs_up_self)
      have taB := c4.kept fun q hq => d5 q (c4.not3 q hq)
      have isPa : fs_isP hB a' := by
        obtain ⟨cf, rf, c, w, lo, i, g, k1, _⟩ := taB
        exact fs_isP_of k1 (by decide)
      have isPb : fs_isP hB b' := by
        obtain ⟨cf, rf, c, w, lo, i, g, k1, _⟩ := d4
        exact fs_isP_of k1 (by decide)
      refine mk_OV hoB (by omega) (by omega) isPa isPb fun i' g2 h2' hi hne e2 e3 e4 e4' e5 => fs_kv_of ?_
      have hall : ext h hB := (hE1.trans c5).trans d5
      have he : ∀ q, hB q ≠ none → q ≠ o → h2' q = hB q := fun q hq qo => e5 q qo fun z => hq (z ▸ hi)
      have hoN : ∀ q, h q ≠ none → q ≠ o := fun q hq z => hq (z ▸ ho)
      have up1 := up_none c1
      have up2 := up_none c2
      have oa : hA a' ≠ none := c4.not3 a' (by simp)
      have oia : hA ia ≠ none := c4.not3 ia (by simp)
      have oo : hA o ≠ none := by rw [c5 o (by rw [fs_up_self]; exact fun z => by cases z), fs_up_self]; exact fun z => by cases z
      have bo : b' ≠ o := fun z => oo (z ▸ d1)
      have ibo : ib ≠ o := fun z => oo (z ▸ d2)
      have hA0 : ∀ q, hA q = none → h q = none := fun q hq => (hE1.trans c5).nn0 hq
      have hB0 : ∀ q, hB q = none → h q = none := fun q hq => hall.nn0 hq
      refine K h2' o (o :: i' :: ([a', ia] ++ [b', ib])) ?_ (fun q hq => (he q (by rw [hall q hq]; exact hq) (hoN q hq)).trans (hall q hq)) ⟨?_, fun q hq => Or.inl ?_⟩
      · rw [List.map_cons, List.map_nil, show itM dx dy (nI (j + 2), x, y, 0) = (nI (j + 2), mvx dx dy x, mvx dx dy y, 0) from itsh_rg _ _ h0 x y]
        refine Or.inr (Or.inr (Or.inr (Or.inr (Or.inr (Or.inr ⟨j, a', b', i', g2, _, _, _, _, h0, e2, e3, e4, e4', taB.kept fun q hq => he q (taB.not3 q hq) ?_, d4.kept fun q hq => he q (d4.not3 q hq) ?_, rfl, rfl⟩)))))
        · simp only [List.mem_cons, List.not_mem_nil, or_false] at hq
          rcases hq with rfl | rfl
          · exact up1.1
          · exact up2.1
        · simp only [List.mem_cons, List.not_mem_nil, or_false] at hq
          rcases hq with rfl | rfl
          · exact bo
          · exact ibo
      · have i'o : i' ≠ o := hne
        have i'a : i' ≠ a' := fun z => (taB.not3 a' (by simp)) (z ▸ hi)
        have i'ia : i' ≠ ia := fun z => (taB.not3 ia (by simp)) (z ▸ hi)
        have i'b : i' ≠ b' := fun z => (d4.not3 b' (by simp)) (z ▸ hi)
        have i'ib : i' ≠ ib := fun z => (d4.not3 ib (by simp)) (z ▸ hi)
        have ab' : a' ≠ b' := fun z => oa (z ▸ d1)
        have aib : a' ≠ ib := fun z => oa (z ▸ d2)
        have iab : ia ≠ b' := fun z => oia (z ▸ d1)
        have iaib : ia ≠ ib := fun z => oia (z ▸ d2)
        simp [Ne.symm i'o, Ne.symm up1.1, Ne.symm up2.1, Ne.symm bo, Ne.symm ibo, i'a, i'ia, i'b, i'ib, c3, ab', aib, iab, iaib, d3]
      · simp only [List.mem_cons, List.mem_append, List.not_mem_nil, or_false] at hq
        rcases hq with rfl | rfl | (rfl | rfl) | (rfl | rfl)
        · exact ho
        · exact hB0 _ hi
        · exact up1.2
        · exact up2.2
        · exact hA0 _ d1
        · exact hA0 _ d2
