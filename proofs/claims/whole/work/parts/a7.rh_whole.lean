/-! Pure: the whole claim. -/
/-- the class's state where other things lie too -/
theorem CI.grow {E : fs_E} {U U' : Nat → Prop} {h h' : fs_Hp} {x n : Nat} {A : Shh} {f : Nat → Int32} {er : Int32} (c : CI E U h x A f n er) (e : ext h h') (hU : ∀ q, U' q → h q = none ∧ h' q ≠ none ∧ ∀ fs, h' q ≠ some (.inr (5, fs))) : CI E U' h' x A f n er := by
  obtain ⟨ln, ch, ce, fil, fo, va, re, ga, od, sb, v, cap, t, x2, x3, st, bf, vf, ff, rf, oo, Fs, c⟩ := c
  obtain ⟨c', _⟩ := c.byX e
  refine ⟨ln, ch, ce, fil, fo, va, re, ga, od, sb, v, cap, t, x2, x3, st, bf, vf, ff, rf, oo, Fs, c'.1, c'.2.1, c'.2.2.1, c'.2.2.2.1, c'.2.2.2.2.1, c'.2.2.2.2.2.1, fun q hq => ?_⟩
  obtain ⟨u1, u2, u3⟩ := hU q hq
  exact ⟨u2, u3, fun w => c.nnn w u1, fun w => ccp_some c.2.1 w u1⟩
theorem fs_claim : fs_Claim := by
  intro E hE L xs hL
  refine ⟨by decide, by decide, fun z1 n1 => ⟨100, 800, by decide, by decide, ?_⟩⟩
  refine sh_init fs_up_self (by decide) (by decide) fun h1 c1 => fs_kv_of ⟨by decide, by decide, fun z2 n2 => ⟨30, 20000, by decide, by decide, ?_⟩⟩
  refine mo_init fs_up_self (by decide) (by decide) fun h2 ad m1 m2 m3 => fs_kv_of ?_
  rw [cl1]
  refine ⟨by decide, by decide, by decide, by decide, fun z3 n3 => ⟨by decide, by decide, by decide, by decide, fun z4 n4 => ⟨512 + 1, ?_⟩⟩⟩
  have ne : ∀ (h : fs_Hp) (q : Nat) (e : va_E), h q = some e → h q ≠ none := fun h q e w => by rw [w]; exact fun w => by cases w
  have n34 : z3 ≠ z4 := fun w => by rw [← w, fs_up_self] at n4; cases n4
  have k4 : h2 z4 = none := (fs_up_ne (Ne.symm n34)).symm.trans n4
  have hH : ∃ H, H = fs_up (fs_up h2 z3 (.inl (E.1.2 1, 1, .inr (.inl (fun _ : Nat => (0 : Int64)))))) z4 (.inl (E.1.2 2, 1, .inr (.inr (.inr (.inl (fun _ : Nat => (0 : UInt64))))))) := ⟨_, rfl⟩
  obtain ⟨H, eH⟩ := hH
  have Ho : ∀ q, h2 q ≠ none → H q = h2 q := fun q hq => by rw [eH, fs_up_ne (show q ≠ z4 from fun w => hq (w ▸ k4)), fs_up_ne (show q ≠ z3 from fun w => hq (w ▸ n3))]
  have H3 : H z3 = some (.inl (E.1.2 1, 1, .inr (.inl (fun _ => 0)))) := by rw [eH]; exact fs_up_at n34 fs_up_self
  have H4 : H z4 = some (.inl (E.1.2 2, 1, .inr (.inr (.inr (.inl (fun _ => 0)))))) := by rw [eH]; exact fs_up_self
  have har : ∀ j, mo_ar j ≠ none → h2 (ad j) ≠ none := fun j hj => by
    cases e : mo_ar j with
    | none => exact absurd e hj
    | some y =>
      obtain ⟨t, k⟩ := y
      exact ne _ _ _ (m1.2.1 j t k e)
  have mH : mo_at E.1 H z2 ad moZ := ⟨(Ho z2 (ne _ _ _ m1.1)).trans m1.1, fun j t k hj => (Ho (ad j) (har j (by rw [hj]; exact fun w => by cases w))).trans (m1.2.1 j t k hj), m1.2.2⟩
  have h12 : ∀ q, h1 q ≠ none → h2 q = h1 q := fun q hq => by
    have qz : q ≠ z2 := fun w => hq (w ▸ n2)
    have e := fs_up_ne (h := h1) (e := .inr (10, [.null, .null, .null, .null, .null, .null, .null, .null, .null, .int 0, .int 0, .int 0, .int 0, .null, .null, .null, .null, .null, .null, .null, .null, .null, .int 0, .int 0, .int 0, .null, .null, .null, .null, .int 0, .int 0, .null, .null, .null, .int 0, .int 0])) qz
    rw [m3 q qz (by rw [e]; exact hq), e]
  have cH : CI E (UU z2 ad z3 z4) H z1 (fun _ => none) (fun _ => 0) 0 (-1) := by
    refine c1.grow (fun q hq => ?_) (fun q hq => ⟨?_, uu_ok mH H3 H4 q hq⟩)
    · rw [Ho q (by rw [h12 q hq]; exact hq), h12 q hq]
    · have key : h2 q = none → h1 q = none := fun w => by
        cases e : h1 q with
        | none => rfl
        | some y =>
          have := h12 q (by rw [e]; exact fun w => by cases w)
          rw [w, e] at this
          cases this
      rcases hq with rfl | ⟨j, hj, rfl⟩ | rfl | rfl
      · exact n2
      · have := m2 j hj
        exact (fs_up_ne (fun w => by rw [w, fs_up_self] at this; cases this)).symm.trans this
      · exact key n3
      · exact key k4
  have lH : LI E ad z1 z2 z3 z4 H (fun _ => none) (fun _ => 0) 0 (-1) moZ (fun _ => 0) (fun _ => 0) := ⟨cH, mH, H3, H4, fun j hj => ⟨fun w => har j hj (w ▸ n3), fun w => har j hj (w ▸ k4)⟩⟩
  have goal := lw_loop (K := fun _ _ _ => (.inl (some (.int 1)) : fs_O) = .inl (some (.int 1))) (Post := fun o _ => o = .inl (some (.int 1))) (xs := xs) hE hL (fun _ _ _ => rfl) 512 0 H _ _ _ _ _ _ _ (((((601024 - 1 - 100) - 1) - 30) - 1) - 1) (((((7293034 - 4 - 800) - 36) - 20000) - 1) - 1) (by omega) (by omega) (by decide) (by decide) (fun k hk => ⟨fun d w => (by cases w), fun L w => (by cases w)⟩) mq_init lH
  rw [eH] at goal
  exact goal
theorem i_vc : Claimed_1_1 ∧ Claimed_1_2 := fs_vc fs_claim
