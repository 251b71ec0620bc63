/-! Pure: the class counts LOST references. -/
def sm2 : List (Nat × Nat) → Nat
  | [] => 0
  | x :: T => x.2 + sm2 T
theorem lo_L4 {self : fs_E → fs_Hp → Nat → fs_Ps → Prop} {E : fs_E} {h : fs_Hp} {r c i m : Nat} {fs : List Value} {g : Nat → Option Nat} {K : Int32 → fs_Hp → Prop} {Post : fs_Ps} (hc : 4 ≤ c ∧ c ≤ 9) (hr : h r = some (.inr (c, fs))) (hi : fs[fs_pi c]? = some (.ref i)) (hg : tr_in E h i m g) (hm : m < 100) : ∀ (T : List (Nat × Nat)) (j acc : Nat), j + T.length = m → (∀ k x, T[k]? = some x → g (j + k) = some x.1 ∧ ∀ Post, Post (.inl (some (.int (nI x.2)))) h → self E h x.1 Post) → K (nI (acc + sm2 T)) h → w_PT_lostReferences_L4 self E K Post (T.length + 1) r (nI acc) (nI j) h := by
  intro T
  induction T with
  | nil =>
    intro j acc hj hT hK
    rw [List.length_nil] at hj
    rw [w_PT_lostReferences_L4]
    refine fs_gP_of hr hc hi (fs_an_of hg ?_)
    rw [if_pos (show Int32.ofNat m ≤ nI j from nI_le (by omega) (by omega))]
    exact hK
  | cons x T ih =>
    intro j acc hj hT hK
    rw [List.length_cons] at hj
    obtain ⟨t1, t2⟩ := hT 0 x rfl
    rw [w_PT_lostReferences_L4]
    refine fs_gP_of hr hc hi (fs_an_of hg ?_)
    rw [if_neg (show ¬ Int32.ofNat m ≤ nI j from nI_ge (by omega) (by omega))]
    refine fs_gP_of hr hc hi (fs_aq_of hg (nI_in (by omega) (by omega)) ?_)
    rw [nI_clamp (by omega), show g j = some x.1 from t1]
    try dsimp only
    refine t2 _ (fs_ki_of ?_)
    rw [nI_1, nI_add]
    refine ih (j + 1) (acc + x.2) (by omega) (fun k y hk => ?_) ?_
    · have := hT (k + 1) y hk
      rw [show j + (k + 1) = j + 1 + k by omega] at this
      exact this
    · rw [show acc + x.2 + sm2 T = acc + (x.2 + sm2 T) by omega]
      exact hK
theorem re_lost {self : fs_E → fs_Hp → Nat → fs_Ps → Prop} {E : fs_E} {h : fs_Hp} {r : Nat} {x : Int32} {F : List Nat} {Post : fs_Ps} (t : tr_rf E h r x F) (K : Post (.inl (some (.int (nI (ls1 x))))) h) : w_V_lostReferences self E h r Post := by
  obtain ⟨cf, rf, c, w, lo, i, g, h1, h2, h3, h4⟩ := t
  refine Or.inr (Or.inl ⟨fs_isc_of h1, ?_⟩)
  unfold w_RE_lostReferences
  refine fs_gi_of h1 rfl ?_
  unfold ls1 at K
  rcases h3.dec with ⟨l1, l2⟩ | ⟨l1, l2, _⟩
  · rw [if_neg (by rw [l1]; decide)]
    rw [l2, if_neg (by decide)] at K
    exact K
  · rw [if_pos l1]
    rw [l2, if_pos rfl] at K
    exact K
theorem kd_at {n : Nat} {E : fs_E} {h : fs_Hp} {g : Nat → Option Nat} : ∀ {T : List Kd} {j : Nat}, kd n E h g j T → ∀ k x, T[k]? = some x → g (j + k) = some x.1 ∧ rp n E h x.1 x.2.1 x.2.2 := by
  intro T
  induction T with
  | nil => intro j _ k x hk; cases hk
  | cons y T ih =>
    intro j a k x hk
    cases k with
    | zero =>
      cases hk
      exact ⟨a.1, a.2.1⟩
    | succ k =>
      have := ih a.2.2 k x hk
      rw [show j + 1 + k = j + (k + 1) by omega] at this
      exact this
theorem sm2_kd : ∀ T : List Kd, sm2 (T.map fun x => (x.1, lsL x.2.1)) = lsL (kL T) := by
  intro T
  induction T with
  | nil => rfl
  | cons x T ih =>
    show lsL x.2.1 + sm2 (T.map fun x => (x.1, lsL x.2.1)) = lsL (x.2.1 ++ kL T)
    rw [ih, lsL_app]
theorem cls_lost : ∀ (n : Nat) {E : fs_E} {h : fs_Hp} {r : Nat} {L : List It} {F : List Nat} {Post : fs_Ps}, rp n E h r L F → Post (.inl (some (.int (nI (lsL L))))) h → w_N_lostReferences (n + 1) E h r Post := by
  intro n
  induction n with
  | zero => intro E h r L F Post a; exact a.elim
  | succ n ih =>
    intro E h r L F Post tr K
    rw [w_N_lostReferences]
    rcases rp_node tr with ⟨x, t, rfl⟩ | ⟨j, a, b, i, g, x, y, Fa, Fb, h0, h1, h2, h3, h4, ta, tb, rfl, rfl⟩ | ⟨c, i, fs, g, T, tl, h1, h2, h3, h4, h5, rfl, rfl, h8, hl3, h9⟩
    · exact re_lost t K
    · refine Or.inr (Or.inr (Or.inr (Or.inr (Or.inr ⟨fs_isc_of h1, ?_⟩))))
      unfold w_PT_lostReferences
      refine ⟨2 + 1, ?_⟩
      refine lo_L4 (T := [(a, ls1 x), (b, ls1 y)]) (by decide) h1 rfl h2 (by decide) 0 0 rfl (fun k w hk => ?_) ?_
      · match k, hk with
        | 0, hk =>
          cases hk
          exact ⟨h3, fun Post' K' => by rw [w_N_lostReferences]; exact re_lost ta K'⟩
        | 1, hk =>
          cases hk
          exact ⟨h4, fun Post' K' => by rw [w_N_lostReferences]; exact re_lost tb K'⟩
      · have e : lsL [(nI (j + 2), x, y, 0)] = 0 + sm2 [(a, ls1 x), (b, ls1 y)] := by
          show lsc (nI (j + 2), x, y, 0) + 0 = 0 + (ls1 x + (ls1 y + 0))
          rw [lsc_rg h0]
          omega
        rw [e] at K
        exact K
    · have key : w_PT_lostReferences (w_N_lostReferences (n + 1)) E h r Post := by
        refine ⟨T.length + 1, ?_⟩
        have hlen : T.length = (T.map fun x => (x.1, lsL x.2.1)).length := (List.length_map _).symm
        rw [hlen]
        refine lo_L4 (T := T.map fun x => (x.1, lsL x.2.1)) (by omega) h2 h3 h4 (by omega) 0 0 (by rw [← hlen]; omega) (fun k w hk => ?_) ?_
        · rw [List.getElem?_map] at hk
          cases hy : T[k]? with
          | none => rw [hy] at hk; cases hk
          | some u =>
            rw [hy] at hk
            have := kd_at h5 k u hy
            rw [← Option.some.inj hk]
            exact ⟨this.1, fun Post' K' => ih this.2 K'⟩
        · have e : lsL (kL T ++ [tl]) = 0 + sm2 (T.map fun x => (x.1, lsL x.2.1)) := by
            rw [lsL_app, sm2_kd]
            show lsL (kL T) + (lsc tl + 0) = _
            rw [lsc_tl h8]
            omega
          rw [e] at K
          exact K
      rcases h1 with rfl | rfl | rfl | rfl
      · exact Or.inl ⟨fs_isc_of h2, key⟩
      · exact Or.inr (Or.inr (Or.inl ⟨fs_isc_of h2, key⟩))
      · exact Or.inr (Or.inr (Or.inr (Or.inl ⟨fs_isc_of h2, key⟩)))
      · exact Or.inr (Or.inr (Or.inr (Or.inr (Or.inl ⟨fs_isc_of h2, key⟩))))
