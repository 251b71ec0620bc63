/-! Pure: how long texts are; the reference's text. -/
theorem bl_cons (p : Ck × Nat) (st : List (Ck × Nat)) : (bfS (fl (p :: st))).length = (bfS (fl st)).length + p.1.flatten.length := List.length_append
theorem dsz_9 {w : Nat} (h : w < 1000000000) : dsz w ≤ 9 := by
  obtain ⟨a, b, c, d⟩ := dsz_ok h
  rcases d with d | d
  · omega
  · by_cases h9 : dsz w ≤ 9
    · exact h9
    · have e : dsz w = 10 := by omega
      rw [e] at d
      omega
theorem nuC_len {b d : Nat} (hb : b ≤ 4) (hd : d < 1000000000 * 10 ^ b) : (nuC b d).flatten.length ≤ 14 := by
  have hq : d / 10 ^ b < 1000000000 := by
    rw [Nat.div_lt_iff_lt_mul (Nat.pow_pos (by decide))]
    exact hd
  have h9 := dsz_9 hq
  rw [nuC_flat hb, List.length_append, dgl_len]
  split
  · simp only [List.length_nil]; omega
  · rw [List.length_cons, dgl_len]; omega
theorem rfC_len {x : Int32} (h : xok x) : (rfC x).flatten.length ≤ 5 := by
  rcases h with rfl | ⟨C, W, A, B, h1, h2, h3, h4, rfl⟩
  · decide
  · rw [rfC_flat h1 h2 h3 h4]
    have hd : dsz (W + 1) ≤ 2 := by
      have : W = 0 ∨ W = 1 ∨ W = 2 ∨ W = 3 ∨ W = 4 ∨ W = 5 ∨ W = 6 ∨ W = 7 ∨ W = 8 ∨ W = 9 := by omega
      rcases this with rfl | rfl | rfl | rfl | rfl | rfl | rfl | rfl | rfl | rfl <;> decide
    simp only [List.length_append, dgl_len, List.length_cons, List.length_nil]
    have f : ∀ (c : Prop) [Decidable c], (if c then [36] else ([] : List Nat)).length ≤ 1 := by
      intro c _
      split <;> decide
    have f1 := f (A = 1)
    have f2 := f (B = 1)
    omega
theorem ob_ln4 : ∀ j, j < 8 → (ps_ob j).length ≤ 4 ∧ (ps_ob 7).length = 3 := by decide
theorem rgC_len {j : Nat} {a b : Int32} (hj : j < 8) (ha : xok a) (hb : xok b) : (rgC j a b).flatten.length ≤ 17 := by
  have h1 := rfC_len ha
  have h2 := rfC_len hb
  have h3 := (ob_ln4 j hj).1
  unfold rgC
  rw [List.flatten_append, List.flatten_append, List.flatten_append, List.flatten_append]
  simp only [List.length_append, List.flatten_cons, List.flatten_nil, List.length_cons, List.length_nil]
  omega
theorem brC_len (n : Nat) (p : Ck × Nat) : p.1.flatten.length ≤ (brC n p).flatten.length ∧ (brC n p).flatten.length ≤ p.1.flatten.length + 2 := by
  rw [brC_flat]
  refine ⟨brT_ge _ _ _, ?_⟩
  unfold brT
  dsimp only
  split
  · simp only [List.length_append, List.length_cons, List.length_nil]; omega
  · omega
theorem tx_sz {x : It} {st : List (Ck × Nat)} {m : Nat} (hx : itok x) (hq : numq x) (hm : ar x st.length = some m) : (tx1 x st).length = m ∧ m ≤ st.length + 1 ∧ (bfS (fl st)).length ≤ (bfS (fl (tx1 x st))).length ∧ 2 * (bfS (fl (tx1 x st))).length + 9 * st.length ≤ 2 * (bfS (fl st)).length + 19 * wt1 x + 9 * m := by
  rcases hx with ⟨b, d, h1, h2, rfl⟩ | ⟨a, h1, rfl⟩ | ⟨j, a, b, h1, h2, h3, rfl⟩ | ⟨w, h1, rfl⟩ | rfl | ⟨w, h1, rfl⟩
  · obtain ⟨b', d', n1, n2, n3⟩ := hq rfl
    have n4 : nI b = nI b' := congrArg (fun x : It => x.2.1) n3
    have n5 : lN d = lN d' := congrArg (fun x : It => x.2.2.2) n3
    have n6 : b = b' := nI_ij n4 (by omega) (by omega)
    subst n6
    have n8 : (lN d').toBitVec.toNat = d' := lN_toNat (by
      have : d' < 1000000000 * 10 ^ 4 := Nat.lt_of_lt_of_le n2 (Nat.mul_le_mul_left _ (Nat.pow_le_pow_right (by decide) n1))
      omega)
    have e : tx1 (0, nI b, 0, lN d) st = (nuC b d', 5) :: st := by
      show (nuC (nI b).toNatClampNeg (lN d).toBitVec.toNat, 5) :: st = _
      rw [nI_clamp (by omega), n5, n8]
    have e2 : wt1 (0, nI b, 0, lN d) = 1 := rfl
    cases (show some (st.length + 1) = some m from hm)
    have := nuC_len n1 n2
    rw [e, e2, bl_cons]
    dsimp only
    refine ⟨rfl, Nat.le_refl _, by omega, by omega⟩
  · have e : tx1 (1, a, 0, 0) st = (rfC a, 5) :: st := rfl
    have e2 : wt1 (1, a, 0, 0) = 2 := rfl
    cases (show some (st.length + 1) = some m from hm)
    have := rfC_len h1
    rw [e, e2, bl_cons]
    dsimp only
    refine ⟨rfl, Nat.le_refl _, by omega, by omega⟩
  · obtain ⟨i1, i2, i3, i4, i5⟩ := it_rg j h1
    have e : tx1 (nI (j + 2), a, b, 0) st = (rgC j a b, 5) :: st := by
      unfold tx1
      dsimp only
      rw [if_neg i1, if_neg i2, if_pos i4, nI_clamp (by omega)]
      rfl
    have e2 : wt1 (nI (j + 2), a, b, 0) = 11 := by
      unfold wt1
      dsimp only
      rw [if_neg i1, if_neg i2, if_pos i4]
    unfold ar at hm
    rw [if_pos i4] at hm
    cases hm
    have := rgC_len (j := j) (by omega) h2 h3
    rw [e, e2, bl_cons]
    dsimp only
    refine ⟨rfl, Nat.le_refl _, by omega, by omega⟩
  · obtain ⟨i1, i2, i3, i4, i5⟩ := it_1 h1
    unfold ar at hm
    rw [if_neg i5, if_neg i4, if_pos h1] at hm
    by_cases h9 : 1 ≤ st.length
    · rw [if_pos h9] at hm
      cases hm
      match st, h9 with
      | a :: t, _ =>
        have b5 := brC_len 5 a
        have b2 := brC_len 2 a
        have o5 := (ob_ln4 5 (by decide)).1
        have o6 := (ob_ln4 6 (by decide)).1
        rcases h1 with rfl | rfl | rfl | rfl
        · show (([33] :: brC 2 a, 1) :: t).length = (a :: t).length ∧ _ ∧ _ ≤ (bfS (fl (([33] :: brC 2 a, 1) :: t))).length ∧ 2 * (bfS (fl (([33] :: brC 2 a, 1) :: t))).length + _ ≤ _ + 19 * 1 + _
          rw [bl_cons, bl_cons]
          simp only [List.flatten_cons, List.length_append, List.length_cons, List.length_nil]
          refine ⟨trivial, by omega, by omega, by omega⟩
        · show (([45] :: brC 5 a, 4) :: t).length = (a :: t).length ∧ _ ∧ _ ≤ (bfS (fl (([45] :: brC 5 a, 4) :: t))).length ∧ 2 * (bfS (fl (([45] :: brC 5 a, 4) :: t))).length + _ ≤ _ + 19 * 1 + _
          rw [bl_cons, bl_cons]
          simp only [List.flatten_cons, List.length_append, List.length_cons, List.length_nil]
          refine ⟨trivial, by omega, by omega, by omega⟩
        · show (([64] :: ps_ob 5 :: (a.1 ++ [[41]]), 5) :: t).length = (a :: t).length ∧ _ ∧ _ ≤ (bfS (fl (([64] :: ps_ob 5 :: (a.1 ++ [[41]]), 5) :: t))).length ∧ 2 * (bfS (fl (([64] :: ps_ob 5 :: (a.1 ++ [[41]]), 5) :: t))).length + _ ≤ _ + 19 * 6 + _
          rw [bl_cons, bl_cons]
          simp only [List.flatten_cons, List.flatten_append, List.flatten_nil, List.length_append, List.length_cons, List.length_nil]
          refine ⟨trivial, by omega, by omega, by omega⟩
        · show (([64] :: ps_ob 6 :: (a.1 ++ [[41]]), 5) :: t).length = (a :: t).length ∧ _ ∧ _ ≤ (bfS (fl (([64] :: ps_ob 6 :: (a.1 ++ [[41]]), 5) :: t))).length ∧ 2 * (bfS (fl (([64] :: ps_ob 6 :: (a.1 ++ [[41]]), 5) :: t))).length + _ ≤ _ + 19 * 6 + _
          rw [bl_cons, bl_cons]
          simp only [List.flatten_cons, List.flatten_append, List.flatten_nil, List.length_append, List.length_cons, List.length_nil]
          refine ⟨trivial, by omega, by omega, by omega⟩
    · rw [if_neg h9] at hm; cases hm
  · have hm' : (if 3 ≤ st.length then some (st.length - 2) else none) = some m := hm
    by_cases h9 : 3 ≤ st.length
    · rw [if_pos h9] at hm'
      cases hm'
      match st, h9 with
      | c :: b :: a :: t, _ =>
        have o7 := (ob_ln4 0 (by decide)).2
        show (([64] :: ps_ob 7 :: (a.1 ++ [[44]] ++ b.1 ++ [[44]] ++ c.1 ++ [[41]]), 5) :: t).length = (c :: b :: a :: t).length - 2 ∧ _ ∧ _ ≤ (bfS (fl (([64] :: ps_ob 7 :: (a.1 ++ [[44]] ++ b.1 ++ [[44]] ++ c.1 ++ [[41]]), 5) :: t))).length ∧ 2 * (bfS (fl (([64] :: ps_ob 7 :: (a.1 ++ [[44]] ++ b.1 ++ [[44]] ++ c.1 ++ [[41]]), 5) :: t))).length + _ ≤ _ + 19 * 7 + _
        rw [bl_cons, bl_cons, bl_cons, bl_cons]
        simp only [List.flatten_cons, List.flatten_append, List.flatten_nil, List.length_append, List.length_cons, List.length_nil, o7]
        refine ⟨by omega, by omega, by omega, by omega⟩
    · rw [if_neg h9] at hm'; cases hm'
  · obtain ⟨i1, i2, i3, i4, i5, i6, i7, i8, i9⟩ := it_2 h1
    unfold ar at hm
    rw [if_neg i5, if_neg i4, if_neg (show ¬ (w = 33 ∨ w = 10 ∨ w = 7 ∨ w = 8) from fun z => z.elim i6 fun z => z.elim i7 fun z => z.elim i8 i9)] at hm
    have e2 : wt1 (w, 0, 0, 0) = 1 := by
      unfold wt1
      dsimp only
      rw [if_neg i1, if_neg i2, if_neg i5, if_neg (show ¬ (w = 7 ∨ w = 8) from fun z => z.elim i8 i9), if_neg i4]
    by_cases h9 : 2 ≤ st.length
    · rw [if_pos h9] at hm
      cases hm
      match st, h9 with
      | b :: a :: t, _ =>
        have c1 := brC_len (if rul w = 1 then 2 else rul w) a
        have c2 := brC_len (rul w + 1) b
        rw [tx_two h1, e2, bl_cons, bl_cons, bl_cons]
        simp only [List.flatten_cons, List.flatten_append, List.flatten_nil, List.length_append, List.length_cons, List.length_nil]
        refine ⟨by omega, by omega, by omega, by omega⟩
    · rw [if_neg h9] at hm; cases hm
theorem txs_sz : ∀ (L : List It) (st : List (Ck × Nat)) (m : Nat), (∀ x ∈ L, itok x) → (∀ x ∈ L, numq x) → hgt L st.length = some m → (txs L st).length = m ∧ (bfS (fl st)).length ≤ (bfS (fl (txs L st))).length ∧ 2 * (bfS (fl (txs L st))).length + 9 * st.length ≤ 2 * (bfS (fl st)).length + 19 * wtL L + 9 * m := by
  intro L
  induction L with
  | nil =>
    intro st m _ _ hm
    cases (show some st.length = some m from hm)
    refine ⟨rfl, Nat.le_refl _, ?_⟩
    show 2 * (bfS (fl st)).length + 9 * st.length ≤ 2 * (bfS (fl st)).length + 19 * 0 + 9 * st.length
    omega
  | cons x L ih =>
    intro st m hx hq hm
    have h' : (ar x st.length).bind (hgt L) = some m := hm
    cases ha : ar x st.length with
    | none => rw [ha] at h'; cases h'
    | some m1 =>
      rw [ha] at h'
      obtain ⟨s1, s2, s3, s4⟩ := tx_sz (hx x List.mem_cons_self) (hq x List.mem_cons_self) ha
      obtain ⟨t1, t2, t3⟩ := ih (tx1 x st) m (fun y hy => hx y (List.mem_cons_of_mem _ hy)) (fun y hy => hq y (List.mem_cons_of_mem _ hy)) (by rw [s1]; exact h')
      refine ⟨t1, Nat.le_trans s3 t2, ?_⟩
      show 2 * (bfS (fl (txs L (tx1 x st)))).length + 9 * st.length ≤ 2 * (bfS (fl st)).length + 19 * (wt1 x + wtL L) + 9 * m
      rw [s1] at t3
      omega
/-- the text of a formula -/
def tex (L : List It) : List Nat := bfS (fl (txs L []))
theorem tex_len {L : List It} (hL : fok L) (ht : txk L) : (tex L).length ≤ 400 := by
  obtain ⟨_, _, h⟩ := txs_sz L [] 1 hL.1 ht.1 (hL.2 0)
  have := ht.2
  have h' : 2 * (tex L).length + 9 * 0 ≤ 2 * 0 + 19 * wtL L + 9 * 1 := h
  omega
theorem te_L61 {k s : Nat} {x3 : Int32} (hk : k < 80) (hs2 : s ≤ 40) : ∀ (L : List It) (i n : Nat) (M : mo_S) (st : List (Ck × Nat)) (m : Nat), M.2.1 1 k = nI s → i + L.length = s → L.length < n → (∀ x ∈ L, itok x) → (∀ x ∈ L, numq x) → (∀ j y, L[j]? = some y → ci M (40 * k + i + j) y) → pm_names M → tk M (fl st) → st.length ≤ i → hgt L st.length = some m → (bfS (fl (txs L st))).length ≤ 400 → ∃ M', q_MO_text_L61 n x3 (nI k) (nI (40 * k + i)) M = some M' ∧ tk M' (fl (txs L st)) ∧ tF M M' := by
  intro L
  induction L with
  | nil =>
    intro i n M st m hs1 hi hn _ _ _ hb hsk hl hm _
    obtain ⟨n, rfl⟩ : ∃ q, n = q + 1 := ⟨n - 1, by omega⟩
    have e2 : ((40 * nI k) + (M.2.1 1 (Int32.toNatClampNeg (nI k)))) ≤ nI (40 * k + i) := by
      rw [nI_clamp (by omega), hs1, nI_40]
      exact nI_le (by rw [List.length_nil] at hi; omega) (by omega)
    rw [q_MO_text_L61, fs_okp_pos (show vp_in (nI k) 81 from nI_in (by omega) (by omega)), if_pos e2]
    exact ⟨M, rfl, hsk, tF.rf M⟩
  | cons x L ih =>
    intro i n M st m hs1 hi hn hx hq hc hb hsk hl hm hlen
    obtain ⟨n, rfl⟩ : ∃ q, n = q + 1 := ⟨n - 1, by omega⟩
    rw [List.length_cons] at hi hn
    have h' : (ar x st.length).bind (hgt L) = some m := hm
    cases ha : ar x st.length with
    | none => rw [ha] at h'; cases h'
    | some m1 =>
      rw [ha] at h'
      obtain ⟨s1, s2, s3, s4⟩ := tx_sz (hx x List.mem_cons_self) (hq x List.mem_cons_self) ha
      have hx' := fun y hy => hx y (List.mem_cons_of_mem _ hy)
      have hq' := fun y hy => hq y (List.mem_cons_of_mem _ hy)
      obtain ⟨t1, t2, t3⟩ := txs_sz L (tx1 x st) m hx' hq' (by rw [s1]; exact h')
      have hlen' : (bfS (fl (txs L (tx1 x st)))).length ≤ 400 := hlen
      obtain ⟨M1, q1, q2, q3⟩ := mo_item (k := 40 * k + i) hsk (by omega) (by omega) (hc 0 x rfl) (hx x List.mem_cons_self) (hq x List.mem_cons_self) ha hb (Nat.le_trans t2 hlen')
      have e2 : ¬ ((40 * nI k) + (M.2.1 1 (Int32.toNatClampNeg (nI k)))) ≤ nI (40 * k + i) := by
        rw [nI_clamp (by omega), hs1, nI_40]
        exact nI_ge (by omega) (by omega)
      have r := ih (i + 1) n M1 (tx1 x st) m (by rw [q3.2.1 1 k (by decide) (by decide) (by decide)]; exact hs1) (by omega) (by omega) hx' hq' (fun j y hj => by
        have := hc (j + 1) y hj
        rw [show 40 * k + i + (j + 1) = 40 * k + (i + 1) + j by omega] at this
        exact q3.it this) (q3.nm hb) q2 (by omega) (by rw [s1]; exact h') hlen'
      obtain ⟨M2, r1, r2, r3⟩ := r
      refine ⟨M2, ?_, r2, q3.trans r3⟩
      rw [q_MO_text_L61, fs_okp_pos (show vp_in (nI k) 81 from nI_in (by omega) (by omega)), if_neg e2, q1, Option.bind_some, nI_1]
      exact r1
theorem nI_idx {x : Int32} {n : Nat} (h1 : ¬ x < 0) (h2 : x < nI n) (hn : n < 2 ^ 31) : ∃ i : Nat, i < n ∧ x = nI i := by
  obtain ⟨j, hj, rfl⟩ := nI_of h1
  exact ⟨j, (nI_ltI hj hn).mp h2, rfl⟩
/-- the character that is asked for -/
def txc (T : List Nat) (x : Int32) : Int32 := if x < 0 then -1 else if x < nI T.length then nI (T.getD x.toNatClampNeg 0) else -1
theorem mo_text {M : mo_S} {c r : Nat} {L : List It} {x3 : Int32} (hc : c < 8) (hr : r < 10) (h0 : M.2.1 0 (10 * c + r) = 2) (hL : fok L) (ht : txk L) (hcf : cif M (10 * c + r) L) (hn : pm_names M) : ∃ M', q_MO_text M (nI c) (nI r) x3 = some (txc (tex L) x3, M') ∧ tF (mo_f M 11 0) M' := by
  have ho : p_MO_out (nI c) (nI r) = 0 := out_in hc hr
  have e1 : (10 : Int32) * nI c + nI r = nI (10 * c + r) := by
    rw [show (10 : Int32) = nI 10 from rfl, nI_mul, nI_add]
  have e2 : (40 : Int32) * nI (10 * c + r) = nI (40 * (10 * c + r) + 0) := by rw [← nI_40]; exact (Int32.add_zero _).symm
  have k0 : tk (mo_f (mo_f (mo_f M 11 0) 34 0) 35 0) (fl []) := ⟨⟨rfl, fun i c' hi => by cases i <;> cases hi⟩, rfl, trivial⟩
  have f0 : tF (mo_f M 11 0) (mo_f (mo_f (mo_f M 11 0) 34 0) 35 0) := ⟨fun j h1 h2 => by rw [mo_f_1, if_neg h2, mo_f_1, if_neg h1], fun j q _ _ _ => rfl, rfl⟩
  obtain ⟨M1, q1, q2, q3⟩ := te_L61 (k := 10 * c + r) (x3 := x3) (by omega) hcf.2.1 L 0 41 (mo_f (mo_f (mo_f M 11 0) 34 0) 35 0) [] 1 hcf.1 (by omega) (by have := hcf.2.1; omega) hL.1 ht.1 (fun j y hj => by rw [Nat.add_zero (40 * (10 * c + r))]; exact hcf.2.2 j y hj) hn k0 (Nat.le_refl _) (hL.2 0) (tex_len hL ht)
  refine ⟨M1, ?_, f0.trans q3⟩
  unfold q_MO_text
  rw [if_pos ho, e1, fs_okp_pos (show vp_in (nI (10 * c + r)) 81 from nI_in (by omega) (by omega)), nI_clamp (by omega), if_pos h0, e2, q1, Option.bind_some]
  try dsimp only
  have b : bufR M1 (tex L) := q2.1
  unfold txc
  rw [b.1]
  by_cases h1 : x3 < 0
  · rw [if_pos h1, if_pos h1]
  · rw [if_neg h1, if_neg h1]
    by_cases h2 : x3 < nI (tex L).length
    · have hl := tex_len hL ht
      obtain ⟨i, hi, rfl⟩ : ∃ i : Nat, i < (tex L).length ∧ x3 = nI i := nI_idx h1 h2 (by omega)
      rw [if_pos h2, if_pos h2, fs_okp_pos (show vp_in (nI i) 400 from nI_in (by omega) (by omega)), nI_clamp (by omega)]
      rw [b.2 i _ (List.getElem?_eq_getElem hi), List.getD_eq_getElem?_getD, List.getElem?_eq_getElem hi]
      rfl
    · rw [if_neg h2, if_neg h2]
