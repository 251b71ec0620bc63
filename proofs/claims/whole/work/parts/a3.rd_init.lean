/-! Pure: both sides as they begin. -/
theorem cl80 : Int32.toNatClampNeg 80 = 80 := by decide
theorem cl40 : Int32.toNatClampNeg 40 = 40 := by decide
theorem cl16 : Int32.toNatClampNeg 16 = 16 := by decide
theorem cl81 : Int32.toNatClampNeg 81 = 81 := by decide
theorem cl3240 : Int32.toNatClampNeg 3240 = 3240 := by decide
theorem cl24 : Int32.toNatClampNeg 24 = 24 := by decide
theorem cl44 : Int32.toNatClampNeg 44 = 44 := by decide
theorem cl8 : Int32.toNatClampNeg 8 = 8 := by decide
theorem cl400 : Int32.toNatClampNeg 400 = 400 := by decide
theorem cl1 : Int32.toNatClampNeg 1 = 1 := by decide
/-- an object that is being made: its fields, what was made for it -/
def inP (c : Nat) (h0 h : fs_Hp) (a : Nat) (fs : List Value) (D : List (Nat × va_E)) : Prop := h a = some (.inr (c, fs)) ∧ (D.map Prod.fst).Nodup ∧ (∀ p ∈ D, p.1 ≠ a ∧ h p.1 = some p.2 ∧ h0 p.1 = none) ∧ (∀ q, q ≠ a → h0 q ≠ none → h q = h0 q) ∧ h0 a ≠ none
theorem inP.z {c : Nat} {h : fs_Hp} {a : Nat} {fs : List Value} (e : h a = some (.inr (c, fs))) : inP c h h a fs [] := ⟨e, List.nodup_nil, fun p hp => (by cases hp), fun _ _ _ => rfl, by rw [e]; exact fun z => by cases z⟩
theorem inP.al {c : Nat} {h0 h : fs_Hp} {a b : Nat} {fs : List Value} {D : List (Nat × va_E)} {e : va_E} (i : inP c h0 h a fs D) (hb : h b = none) : inP c h0 (fs_up h b e) a fs ((b, e) :: D) := by
  obtain ⟨i1, i2, i3, i4, i5⟩ := i
  have hba : b ≠ a := fun z => by rw [z, i1] at hb; cases hb
  have h0b : h0 b = none := by
    cases e0 : h0 b with
    | none => rfl
    | some y =>
      have := i4 b hba (by rw [e0]; exact fun z => by cases z)
      rw [hb, e0] at this
      cases this
  refine ⟨(fs_up_ne (Ne.symm hba)).trans i1, ?_, fun p hp => ?_, fun q q1 q2 => ?_, i5⟩
  · rw [List.map_cons, List.nodup_cons]
    refine ⟨fun z => ?_, i2⟩
    obtain ⟨p, p1, p2⟩ := List.mem_map.mp z
    have := (i3 p p1).2.1
    rw [p2] at this
    have hb' : h b = none := hb
    rw [hb'] at this
    cases this
  · rcases List.mem_cons.mp hp with rfl | hp
    · exact ⟨hba, fs_up_self, h0b⟩
    · obtain ⟨p1, p2, p3⟩ := i3 p hp
      refine ⟨p1, (fs_up_ne fun z => ?_).trans p2, p3⟩
      rw [z, hb] at p2
      cases p2
  · exact (fs_up_ne (show q ≠ b from fun z => q2 (z ▸ h0b))).trans (i4 q q1 q2)
theorem inP.pw {c : Nat} {h0 h : fs_Hp} {a k : Nat} {fs : List Value} {D : List (Nat × va_E)} {v : Value} {K : fs_Hp → Prop} (i : inP c h0 h a fs D) (hl : k < fs.length) (hK : ∀ h', inP c h0 h' a (fs.set k v) D → K h') : fs_pw h a c k v K := by
  obtain ⟨i1, i2, i3, i4, i5⟩ := i
  exact fs_pw_of i1 hl (hK _ ⟨fs_up_self, i2, fun p hp => ⟨(i3 p hp).1, (fs_up_ne (i3 p hp).1).trans (i3 p hp).2.1, (i3 p hp).2.2⟩, fun q q1 q2 => (fs_up_ne q1).trans (i4 q q1 q2), i5⟩)
theorem inP.pq {c N : Nat} {h0 h : fs_Hp} {a k : Nat} {fs : List Value} {D : List (Nat × va_E)} {v : Value} {K : fs_Hp → Prop} (i : inP c h0 h a fs D ∧ fs.length = N) (hl : k < N) (hK : ∀ h', inP c h0 h' a (fs.set k v) D ∧ (fs.set k v).length = N → K h') : fs_pw h a c k v K := i.1.pw (by rw [i.2]; exact hl) fun h' j => hK h' ⟨j, by rw [List.length_set]; exact i.2⟩
theorem inP.aq {c N : Nat} {h0 h : fs_Hp} {a b : Nat} {fs : List Value} {D : List (Nat × va_E)} {e : va_E} (i : inP c h0 h a fs D ∧ fs.length = N) (hb : h b = none) : inP c h0 (fs_up h b e) a fs ((b, e) :: D) ∧ fs.length = N := ⟨i.1.al hb, i.2⟩
theorem inP.si {c : Nat} {h0 h : fs_Hp} {a b n : Nat} {fs : List Value} {D : List (Nat × va_E)} {cA : ClassId} {g : Nat → Int32} {j x : Int32} {J : Nat} {K : fs_Hp → Prop} (i : inP c h0 h a fs ((b, .inl (cA, n, .inl g)) :: D)) (ej : j = nI J) (hJ : J < n) (hn : n < 2 ^ 31) (hK : ∀ h', inP c h0 h' a fs ((b, .inl (cA, n, .inl (upd g J x))) :: D) → K h') : fs_si h b cA j x K := by
  obtain ⟨i1, i2, i3, i4, i5⟩ := i
  obtain ⟨b1, b2, b3⟩ := i3 _ List.mem_cons_self
  have nd := i2
  rw [List.map_cons, List.nodup_cons] at nd
  rw [ej]
  refine fs_si_of b2 (nI_in hJ hn) ?_
  rw [nI_clamp (by omega)]
  refine (hK _ ⟨(fs_up_ne (Ne.symm b1)).trans i1, i2, fun p hp => ?_, fun q q1 q2 => (fs_up_ne (show q ≠ b from fun z => q2 (z ▸ b3))).trans (i4 q q1 q2), i5⟩)
  rcases List.mem_cons.mp hp with rfl | hp
  · exact ⟨b1, fs_up_self, b3⟩
  · obtain ⟨p1, p2, p3⟩ := i3 p (List.mem_cons_of_mem _ hp)
    exact ⟨p1, (fs_up_ne fun z => nd.1 (List.mem_map.mpr ⟨p, hp, z⟩)).trans p2, p3⟩
/-! the class's cells -/
theorem ci_L56 {E : fs_E} {ce fil fo va re ga od : Nat} {h0 : fs_Hp} {K : Nat → Nat → fs_Hp → Prop} {Post : fs_Ps} (hr0 : h0 re ≠ none) : ∀ (m k : Nat) (h : fs_Hp) (rf : Nat → Option Nat) (bc bs : Nat), k + m = 80 → m ≤ bc → 2 * m ≤ bs → h ce = some (.inr (2, [.ref fil, .ref fo, .ref va, .ref re, .ref ga, .ref od, .int 0])) → h re = some (.inl (E.1.2 7, 80, .inr (.inr (.inr (.inr rf))))) → (∀ j, j < k → ∃ s, rf j = some s ∧ cset h s (fun _ => false)) → (∀ i j s, i < k → j < k → rf i = some s → rf j = some s → i = j) → (∀ q, q ≠ re → h0 q ≠ none → h q = h0 q) → (∀ h' rf' bc' bs', h' ce = some (.inr (2, [.ref fil, .ref fo, .ref va, .ref re, .ref ga, .ref od, .int 0])) → h' re = some (.inl (E.1.2 7, 80, .inr (.inr (.inr (.inr rf'))))) → (∀ j, j < 80 → ∃ s, rf' j = some s ∧ cset h' s (fun _ => false)) → rinj rf' → (∀ q, q ≠ re → h0 q ≠ none → h' q = h0 q) → K bc' bs' h') → w_CE_init_L56 E K Post (m + 1) ce (nI k) bc bs h := by
  intro m
  induction m with
  | zero =>
    intro k h rf bc bs hk hbc hbs h1 h2 h3 h4 h5 hK
    rw [w_CE_init_L56]
    try dsimp only
    rw [if_pos (show (80 : Int32) ≤ nI k from nI_le (a := 80) (by omega) (by omega))]
    have e : k = 80 := by omega
    rw [e] at h3 h4
    exact hK h rf bc bs h1 h2 h3 (fun i j s hi hj => h4 i j s hi hj) h5
  | succ m ih =>
    intro k h rf bc bs hk hbc hbs h1 h2 h3 h4 h5 hK
    rw [w_CE_init_L56]
    try dsimp only
    rw [if_neg (show ¬ (80 : Int32) ≤ nI k from nI_ge (b := 80) (by omega) (by decide)), nI_1]
    refine fs_gr_of h1 rfl ⟨by omega, by omega, fun s hs => fs_kv_of ⟨fs_isc_of fs_up_self, ?_⟩⟩
    have nr : re ≠ s := fun z => by rw [z, hs] at h2; cases h2
    have nc : ce ≠ s := fun z => by rw [z, hs] at h1; cases h1
    have ncr : ce ≠ re := fun z => by rw [z, h2] at h1; cases h1
    refine fs_sq_of (fs_up_at nr h2) (nI_in (by omega) (by decide)) ?_
    rw [nI_clamp (by omega)]
    have old : ∀ t p, cset h t p → cset (fs_up (fs_up h s (.inr (3, [.long 0, .long 0]))) re (.inl (E.1.2 7, 80, .inr (.inr (.inr (.inr (va_up rf k (some s)))))))) t p := fun t p c => by
      obtain ⟨lo, hi, e1, e2⟩ := c
      exact ⟨lo, hi, fs_up_at (fun z => by rw [z, h2] at e1; cases e1) (fs_up_at (fun z => by rw [z, hs] at e1; cases e1) e1), e2⟩
    refine ih (k + 1) _ (va_up rf k (some s)) (bc - 1) (bs - 2) (by omega) (by omega) (by omega) (fs_up_at ncr (fs_up_at nc h1)) fs_up_self (fun j hj => ?_) (fun i j t hi hj ei ej => ?_) (fun q q1 q2 => ?_) hK
    · rw [va_up_at]
      by_cases z : j = k
      · rw [if_pos z]
        exact ⟨s, rfl, cset_new.kept (fs_up_ne (Ne.symm nr))⟩
      · rw [if_neg z]
        obtain ⟨t, t1, t2⟩ := h3 j (by omega)
        exact ⟨t, t1, old t _ t2⟩
    · rw [va_up_at] at ei ej
      have fresh : ∀ j, j < k → rf j ≠ some s := fun j hj z => by
        obtain ⟨t, t1, lo, hi, t2, _⟩ := h3 j hj
        rw [z] at t1
        cases t1
        rw [hs] at t2
        cases t2
      by_cases z1 : i = k
      · rw [if_pos z1] at ei
        cases ei
        by_cases z2 : j = k
        · rw [z1, z2]
        · rw [if_neg z2] at ej
          exact absurd ej (fresh j (by omega))
      · rw [if_neg z1] at ei
        by_cases z2 : j = k
        · rw [if_pos z2] at ej
          cases ej
          exact absurd ei (fresh i (by omega))
        · rw [if_neg z2] at ej
          exact h4 i j t (by omega) (by omega) ei ej
    · have : q ≠ s := fun z => by
        have := h5 q q1 q2
        rw [z, hs] at this
        exact q2 (by rw [z]; exact this.symm)
      rw [fs_up_ne q1, fs_up_ne this]
      exact h5 q q1 q2
theorem ce_init {E : fs_E} {h : fs_Hp} {ce mc ms : Nat} {Post : fs_Ps} (hce : h ce = some (.inr (2, [.null, .null, .null, .null, .null, .null, .int 0]))) (hm : 86 ≤ mc) (hs : 640 ≤ ms) (K : ∀ h' fil fo va re ga od rf, csr E h' ce fil fo va re ga od 0 (fun _ => 0) (fun _ => 0) (fun _ => none) rf (fun _ => 0) → rinj rf → rset h' rf (fun _ _ => false) → (∀ q, q ≠ ce → h q ≠ none → h' q = h q) → h fil = none → h od = none → Post (.inl none) h') : w_CE_init mc ms E h ce Post := by
  unfold w_CE_init
  rw [cl80]
  refine ⟨by decide, by decide, by omega, by omega, fun a1 n1 => ?_⟩
  refine ((inP.z hce).al n1).pw (Nat.le_of_ble_eq_true rfl) fun h1 i1 => ⟨by decide, by decide, by omega, by omega, fun a2 n2 => ?_⟩
  refine (i1.al n2).pw (Nat.le_of_ble_eq_true rfl) fun h2 i2 => ⟨by decide, by decide, by omega, by omega, fun a3 n3 => ?_⟩
  refine (i2.al n3).pw (Nat.le_of_ble_eq_true rfl) fun h3 i3 => ⟨by decide, by decide, by omega, by omega, fun a4 n4 => ?_⟩
  refine (i3.al n4).pw (Nat.le_of_ble_eq_true rfl) fun h4 i4 => ⟨by decide, by decide, by omega, by omega, fun a5 n5 => ?_⟩
  refine (i4.al n5).pw (Nat.le_of_ble_eq_true rfl) fun h5 i5 => ⟨by decide, by decide, by omega, by omega, fun a6 n6 => ?_⟩
  refine (i5.al n6).pw (Nat.le_of_ble_eq_true rfl) fun h6 i6 => ⟨80 + 1, ?_⟩
  obtain ⟨j1, j2, j3, j4, j5⟩ := i6
  have f1 := j3 (a1, _) (List.mem_cons_of_mem _ (List.mem_cons_of_mem _ (List.mem_cons_of_mem _ (List.mem_cons_of_mem _ (List.mem_cons_of_mem _ List.mem_cons_self)))))
  have f2 := j3 (a2, _) (List.mem_cons_of_mem _ (List.mem_cons_of_mem _ (List.mem_cons_of_mem _ (List.mem_cons_of_mem _ List.mem_cons_self))))
  have f3 := j3 (a3, _) (List.mem_cons_of_mem _ (List.mem_cons_of_mem _ (List.mem_cons_of_mem _ List.mem_cons_self)))
  have f4 := j3 (a4, _) (List.mem_cons_of_mem _ (List.mem_cons_of_mem _ List.mem_cons_self))
  have f5 := j3 (a5, _) (List.mem_cons_of_mem _ List.mem_cons_self)
  have f6 := j3 (a6, _) List.mem_cons_self
  dsimp only at f1 f2 f3 f4 f5 f6
  have nd : [a6, a5, a4, a3, a2, a1].Nodup := j2
  have hne : ∀ q e, h6 q = some e → h6 q ≠ none := fun q e z => by rw [z]; exact fun w => by cases w
  refine ci_L56 (h0 := h6) (hne _ _ f4.2.1) 80 0 h6 (fun _ => none) _ _ (by omega) (by omega) (by omega) j1 f4.2.1 (fun j hj => absurd hj (Nat.not_lt_zero j)) (fun i j s hi => absurd hi (Nat.not_lt_zero i)) (fun _ _ _ => rfl) fun h' rf' bc' bs' k1 k2 k3 k4 k5 => ?_
  have d45 : a4 ≠ a5 := fun z => by simp [z] at nd
  have d53 : a5 ≠ a3 := fun z => by simp [z] at nd
  have d24 : a2 ≠ a4 := fun z => by simp [z] at nd
  have d16 : a1 ≠ a6 := fun z => by simp [z] at nd
  have d14 : a1 ≠ a4 := fun z => by simp [z] at nd
  have d34 : a3 ≠ a4 := fun z => by simp [z] at nd
  have d64 : a6 ≠ a4 := fun z => by simp [z] at nd
  refine K h' a1 a2 a3 a4 a5 a6 rf' ⟨⟨k1, (k5 a1 d14 (hne _ _ f1.2.1)).trans f1.2.1, (k5 a3 d34 (hne _ _ f3.2.1)).trans f3.2.1, d53, fun k _ => nb_0.nn⟩, ⟨fun _ => 0, (k5 a5 (Ne.symm d45) (hne _ _ f5.2.1)).trans f5.2.1⟩, (k5 a2 d24 (hne _ _ f2.2.1)).trans f2.2.1, k2, (k5 a6 d64 (hne _ _ f6.2.1)).trans f6.2.1, d24, d16⟩ k4 k3 (fun q q1 q2 => ?_) f1.2.2 f6.2.2
  by_cases z : q = a4
  · rw [z] at q2
    exact absurd f4.2.2 q2
  · have e6 := j4 q q1 q2
    exact (k5 q z (by rw [e6]; exact q2)).trans e6
theorem sh_init {E : fs_E} {h : fs_Hp} {x mc ms : Nat} {Post : fs_Ps} (hx : h x = some (.inr (0, [.null, .null, .null, .int 0]))) (hm : 100 ≤ mc) (hs : 800 ≤ ms) (K : ∀ h', CI E (fun _ => False) h' x (fun _ => none) (fun _ => 0) 0 (-1) → Post (.inl none) h') : w_SH_init mc ms E h x Post := by
  refine ⟨by omega, by omega, fun ln n1 => ⟨1, 40, by omega, by omega, ?_⟩⟩
  have nl : x ≠ ln := fun z => by rw [z, n1] at hx; cases hx
  unfold w_LN_init
  rw [cl40]
  refine ⟨by decide, by decide, by omega, by omega, fun ch n2 => ?_⟩
  have ncl : ch ≠ ln := fun z => by rw [z, fs_up_self] at n2; cases n2
  have hch : h ch = none := (fs_up_ne ncl).symm.trans n2
  have ncx : ch ≠ x := fun z => by rw [z, hx] at hch; cases hch
  refine fs_pw_of (fs_up_at (Ne.symm ncl) fs_up_self) (Nat.le_of_ble_eq_true rfl) (fs_kv_of ?_)
  refine fs_pw_of (fs_up_at nl (fs_up_at (Ne.symm ncx) (fs_up_at nl hx))) (Nat.le_of_ble_eq_true rfl) ⟨by omega, by omega, fun ce n3 => ⟨86, 640, by omega, by omega, ?_⟩⟩
  have hH : ∃ H, H = fs_up (fs_up (fs_up (fs_up h ln (.inr (1, [.null, .int 0, .int 0, .int 0]))) ch (.inl (E.1.2 4, 40, .inl (fun _ : Nat => (0 : Int32))))) ln (.inr (1, [.ref ch, .int 0, .int 0, .int 0]))) x (.inr (0, [.ref ln, .null, .null, .int 0])) := ⟨_, rfl⟩
  obtain ⟨H, eH⟩ := hH
  have Hx : H x = some (.inr (0, [.ref ln, .null, .null, .int 0])) := by rw [eH]; exact fs_up_self
  have Hl : H ln = some (.inr (1, [.ref ch, .int 0, .int 0, .int 0])) := by rw [eH]; exact fs_up_at (Ne.symm nl) fs_up_self
  have Hc : H ch = some (.inl (E.1.2 4, 40, .inl (fun _ => 0))) := by rw [eH]; exact fs_up_at ncx (fs_up_at ncl fs_up_self)
  have n3' : H ce = none := by rw [eH]; exact n3
  have nce : ∀ q e, H q = some e → q ≠ ce := fun q e z w => by rw [w, n3'] at z; cases z
  have goal : w_CE_init 86 640 E (fs_up H ce (.inr (2, [.null, .null, .null, .null, .null, .null, .int 0]))) ce (fs_kv (fun h111 => fs_pw h111 x 0 1 (.ref ce) (fun h112 => 1 ≤ ((((mc - 1) - 1) - 1) - 86) ∧ 4 ≤ ((((ms - 4) - 40) - 7) - 640) ∧ ∀ a113 : Nat, h112 a113 = none → (fun h114 : fs_Hp => ∃ c115 s116 : Nat, c115 ≤ (((((mc - 1) - 1) - 1) - 86) - 1) ∧ s116 ≤ (((((ms - 4) - 40) - 7) - 640) - 4) ∧ (w_SB_init c115 s116 E h114 a113 (fs_kv (fun h117 => fs_pw h117 x 0 2 (.ref a113) (fun h118 => fs_pw h118 x 0 3 (.int (-1)) (fun h119 => Post (.inl none) h119))) (fun C_ h_ => Post (.inr C_) h_)))) (fs_up h112 a113 (.inr (11, [.null, .int 0, .int 0, .int 0]))))) (fun C_ h_ => Post (.inr C_) h_)) := by
    refine ce_init fs_up_self (Nat.le_refl _) (Nat.le_refl _) fun h1 fil fo va re ga od rf c1 c2 c3 c4 c5 c6 => fs_kv_of ?_
    have up : ∀ q e, H q = some e → h1 q = some e := fun q e z => by
      have := nce q e z
      rw [c4 q this (by rw [fs_up_ne this, z]; exact fun w => by cases w), fs_up_ne this]
      exact z
    have ne1 : ∀ q e, h1 q = some e → h1 q ≠ none := fun q e z => by rw [z]; exact fun w => by cases w
    have nfo : ∀ q e, H q = some e → q ≠ fil ∧ q ≠ od := fun q e z => by
      have := nce q e z
      constructor
      · intro w
        rw [← w, fs_up_ne this, z] at c5
        cases c5
      · intro w
        rw [← w, fs_up_ne this, z] at c6
        cases c6
    refine fs_pw_of (up x _ Hx) (Nat.le_of_ble_eq_true rfl) ⟨by omega, by omega, fun sb n4 => ⟨1, 16, by omega, by omega, 1, 16, Nat.le_refl _, Nat.le_refl _, ?_⟩⟩
    have hH2 : ∃ H2, H2 = fs_up h1 x (.inr (0, [.ref ln, .ref ce, .null, .int 0])) := ⟨_, rfl⟩
    obtain ⟨H2, eH2⟩ := hH2
    have n4' : H2 sb = none := by rw [eH2]; exact n4
    have H2o : ∀ q, q ≠ x → H2 q = h1 q := fun q hq => by rw [eH2, fs_up_ne hq]
    have H2x : H2 x = some (.inr (0, [.ref ln, .ref ce, .null, .int 0])) := by rw [eH2]; exact fs_up_self
    have nsx : sb ≠ x := fun z => by rw [z, H2x] at n4'; cases n4'
    have goal2 : w_AB_init 1 16 E (fs_up H2 sb (.inr (11, [.null, .int 0, .int 0, .int 0]))) sb 16 (fs_kv (fun h103 => (fs_kv (fun h117 => fs_pw h117 x 0 2 (.ref sb) (fun h118 => fs_pw h118 x 0 3 (.int (-1)) (fun h119 => Post (.inl none) h119))) (fun C_ h_ => Post (.inr C_) h_)) (.inl none) h103) (fun C_ h_ => (fs_kv (fun h117 => fs_pw h117 x 0 2 (.ref sb) (fun h118 => fs_pw h118 x 0 3 (.int (-1)) (fun h119 => Post (.inl none) h119))) (fun C_ h_ => Post (.inr C_) h_)) (.inr C_) h_)) := by
      unfold w_AB_init
      rw [cl16]
      refine ⟨by decide, by decide, by omega, by omega, fun v n5 => ?_⟩
      have nvs : v ≠ sb := fun z => by rw [z, fs_up_self] at n5; cases n5
      have hv2 : H2 v = none := (fs_up_ne nvs).symm.trans n5
      have nvx : v ≠ x := fun z => by rw [z, H2x] at hv2; cases hv2
      refine fs_pw_of (fs_up_at (Ne.symm nvs) fs_up_self) (Nat.le_of_ble_eq_true rfl) (fs_pw_of fs_up_self (Nat.le_of_ble_eq_true rfl) (fs_kv_of (fs_kv_of ?_)))
      refine fs_pw_of (fs_up_at (Ne.symm nsx) (fs_up_at (Ne.symm nsx) (fs_up_at (Ne.symm nvx) (fs_up_at (Ne.symm nsx) H2x)))) (Nat.le_of_ble_eq_true rfl) (fs_pw_of fs_up_self (Nat.le_of_ble_eq_true rfl) ?_)
      have hH3 : ∃ H3, H3 = fs_up (fs_up (fs_up (fs_up (fs_up (fs_up H2 sb (.inr (11, [.null, .int 0, .int 0, .int 0]))) v (.inl (E.1.2 5, 16, .inl (fun _ : Nat => (0 : Int32))))) sb (.inr (11, [.ref v, .int 0, .int 0, .int 0]))) sb (.inr (11, [.ref v, .int 0, .int 0, .int 0]))) x (.inr (0, [.ref ln, .ref ce, .ref sb, .int 0]))) x (.inr (0, [.ref ln, .ref ce, .ref sb, .int (-1)])) := ⟨_, rfl⟩
      obtain ⟨H3, eH3⟩ := hH3
      have H3x : H3 x = some (.inr (0, [.ref ln, .ref ce, .ref sb, .int (-1)])) := by rw [eH3]; exact fs_up_self
      have H3s : H3 sb = some (.inr (11, [.ref v, .int 0, .int 0, .int 0])) := by rw [eH3]; exact fs_up_at nsx (fs_up_at nsx fs_up_self)
      have H3v : H3 v = some (.inl (E.1.2 5, 16, .inl (fun _ => 0))) := by rw [eH3]; exact fs_up_at nvx (fs_up_at nvx (fs_up_at nvs (fs_up_at nvs fs_up_self)))
      have H3o : ∀ q e, q ≠ x → h1 q = some e → H3 q = some e := fun q e q1 z => by
        have w2 : H2 q = some e := (H2o q q1).trans z
        have q2 : q ≠ sb := fun w => by rw [w, n4'] at w2; cases w2
        have q3 : q ≠ v := fun w => by rw [w, hv2] at w2; cases w2
        rw [eH3]
        exact fs_up_at q1 (fs_up_at q1 (fs_up_at q2 (fs_up_at q2 (fs_up_at q3 (fs_up_at q2 w2)))))
      have nvo : ∀ q e, q ≠ x → h1 q = some e → q ≠ v := fun q e q1 z w => by
        have w2 : H2 q = some e := (H2o q q1).trans z
        rw [w, hv2] at w2
        cases w2
      obtain ⟨⟨d1, d2, d3, d4, d5⟩, ⟨gf, d6⟩, d7, d8, d9, d10, d11⟩ := c1
      unfold gaF at d6
      have hx1 := up x _ Hx
      have kx : ∀ q e, h1 q = some e → knd (some e) ≠ 10 → q ≠ x := fun q e z w1 w2 => by
        rw [w2, hx1] at z
        cases z
        exact w1 rfl
      have cl : clL E H3 (fun _ => none) ce fil fo va re ga od 0 (fun _ => 0) (fun _ => 0) (fun _ => none) rf (fun _ => 0) (fun _ => []) := by
        refine ⟨⟨⟨H3o ce _ (kx _ _ d1 (by rw [knd_o]; decide)) d1, H3o fil _ (kx _ _ d2 (by rw [knd_i]; decide)) d2, H3o va _ (kx _ _ d3 (by rw [knd_d]; decide)) d3, d4, d5⟩, ⟨gf, H3o ga _ (kx _ _ d6 (by rw [knd_d]; decide)) d6⟩, H3o fo _ (kx _ _ d7 (by rw [knd_r]; decide)) d7, H3o re _ (kx _ _ d8 (by rw [knd_r]; decide)) d8, H3o od _ (kx _ _ d9 (by rw [knd_i]; decide)) d9, d10, d11⟩, fun k hk => ⟨fun L z => (by cases z), fun _ => rfl⟩, c2, ⟨fun _ _ => false, fun k hk => ?_⟩, fun k hk => ⟨fun _ => ⟨rfl, rfl⟩, fun d z => (by cases z), fun L z => by cases z⟩, fun k hk L z => by cases z⟩
        obtain ⟨s, s1, lo, hi, s2, s3⟩ := c3 k hk
        exact ⟨s, s1, lo, hi, H3o s _ (kx _ _ s2 (by rw [knd_o]; decide)) s2, s3⟩
      have nlx : ln ≠ x := Ne.symm nl
      have nlf := nfo ch _ Hc
      have final : CIx E (fun _ => False) H3 x (fun _ => none) (fun _ => 0) 0 (-1) ln ch ce fil fo va re ga od sb v 16 [] 0 0 0 (fun _ => 0) (fun _ => 0) (fun _ => none) rf (fun _ => 0) (fun _ => []) := by
        refine ⟨⟨H3x, H3o ln _ nlx (up ln _ Hl), H3o ch _ ncx (up ch _ Hc), Nat.zero_le _, fun i hi => absurd hi (Nat.not_lt_zero i)⟩, cl, ⟨fun k hk L z => (by cases z), fun k j hk hj hkj fk => (by obtain ⟨L, z⟩ := fk; cases z)⟩, Or.inl rfl, ⟨⟨fun _ => 0, 0, H3s, H3v, Nat.zero_le _, by omega, fun i hi => ⟨0, by omega, rfl⟩, fun i c hi => (by cases hi)⟩, by omega⟩, ⟨nlf.1, nlf.2, nvo ch _ ncx (up ch _ Hc), nvo fil _ (kx _ _ d2 (by rw [knd_i]; decide)) d2, nvo od _ (kx _ _ d9 (by rw [knd_i]; decide)) d9⟩, fun q hq => hq.elim⟩
      have fin := K H3 final.ci
      rw [eH3] at fin
      exact fin
    rw [eH2] at goal2
    exact goal2
  rw [eH] at goal
  exact goal

def nmF : Nat → Int32 := upd (upd (upd (upd (upd (upd (upd (upd (upd (upd (upd (upd (upd (upd (upd (upd (upd (upd (upd (upd (upd (upd (upd (upd (fun _ => 0) 0 115) 1 117) 2 109) 3 109) 4 105) 5 110) 6 109) 7 97) 8 120) 9 99) 10 110) 11 116) 12 97) 13 118) 14 103) 15 97) 16 98) 17 115) 18 105) 19 110) 20 116) 21 105) 22 102) 23 0
def moZ : mo_S := (fun j => if j = 10 then -1 else if j = 12 then 1 else 0, fun j => if j = 7 then nmF else fun _ => 0, fun _ _ => 0, fun _ _ => 0)
theorem moZ_names : pm_names moZ := by
  unfold pm_names
  decide +kernel
theorem mq_init : MoQ moZ (fun _ => none) (fun _ => 0) 0 (-1) := ⟨fun z hz => ⟨fun _ => rfl, fun d e => (by cases e), fun L e => (by cases e)⟩, fun k _ => Or.inl rfl, fun k => (by show 0 ≤ Int32.toInt 0 ∧ Int32.toInt 0 ≤ 40; decide), fun e => absurd e (show ¬ (1 : Int32) = 0 by decide), rfl, moZ_names, rfl, Nat.zero_le _, fun i hi => absurd hi (Nat.not_lt_zero i)⟩
def ixM : Nat → Nat := fun k => match k with
  | 0 => 24
  | 1 => 23
  | 2 => 22
  | 3 => 21
  | 4 => 20
  | 5 => 19
  | 6 => 18
  | 7 => 17
  | 8 => 16
  | 13 => 15
  | 14 => 14
  | 15 => 13
  | 16 => 12
  | 17 => 11
  | 18 => 10
  | 19 => 9
  | 20 => 8
  | 21 => 7
  | 25 => 6
  | 26 => 5
  | 27 => 4
  | 28 => 3
  | 31 => 2
  | 32 => 1
  | 33 => 0
  | _ => 99
theorem mo_ar_lt {j : Nat} (h : mo_ar j ≠ none) : j < 36 := by
  unfold mo_ar at h
  split at h <;> first | omega | exact absurd rfl h
theorem ixM_inj : ∀ i, i < 36 → ∀ j, j < 36 → mo_ar i ≠ none → mo_ar j ≠ none → ixM i = ixM j → i = j := by decide +kernel
theorem ixM_lt : ∀ i, i < 36 → mo_ar i ≠ none → ixM i < 25 := by decide +kernel
theorem getD_inj {l : List Nat} (hn : l.Nodup) {i j : Nat} (hi : i < l.length) (hj : j < l.length) (e : l.getD i 0 = l.getD j 0) : i = j := by
  rw [List.getD_eq_getElem?_getD, List.getD_eq_getElem?_getD, List.getElem?_eq_getElem hi, List.getElem?_eq_getElem hj] at e
  exact (List.getElem_inj hn).mp e
theorem mo_made {E : fs_E} {h0 h : fs_Hp} {a : Nat} {b0 b1 b2 b3 b4 b5 b6 b7 b8 b13 b14 b15 b16 b17 b18 b19 b20 b21 b25 b26 b27 b28 b31 b32 b33 : Nat} (i : inP 10 h0 h a [.ref b0, .ref b1, .ref b2, .ref b3, .ref b4, .ref b5, .ref b6, .ref b7, .ref b8, .int 0, .int (-1), .int 0, .int 1, .ref b13, .ref b14, .ref b15, .ref b16, .ref b17, .ref b18, .ref b19, .ref b20, .ref b21, .int 0, .int 0, .int 0, .ref b25, .ref b26, .ref b27, .ref b28, .int 0, .int 0, .ref b31, .ref b32, .ref b33, .int 0, .int 0] [(b33, .inl (E.1.2 0, 44, .inl (fun _ : Nat => (0 : Int32)))), (b32, .inl (E.1.2 0, 44, .inl (fun _ : Nat => (0 : Int32)))), (b31, .inl (E.1.2 0, 400, .inl (fun _ : Nat => (0 : Int32)))), (b28, .inl (E.1.2 0, 44, .inl (fun _ : Nat => (0 : Int32)))), (b27, .inl (E.1.2 3, 8, .inl (fun _ : Nat => (0 : Int32)))), (b26, .inl (E.1.2 0, 8, .inl (fun _ : Nat => (0 : Int32)))), (b25, .inl (E.1.2 0, 8, .inl (fun _ : Nat => (0 : Int32)))), (b21, .inl (E.1.2 3, 44, .inl (fun _ : Nat => (0 : Int32)))), (b20, .inl (E.1.2 2, 44, .inr (.inr (.inr (.inl (fun _ : Nat => (0 : UInt64))))))), (b19, .inl (E.1.2 3, 80, .inl (fun _ : Nat => (0 : Int32)))), (b18, .inl (E.1.2 3, 80, .inl (fun _ : Nat => (0 : Int32)))), (b17, .inl (E.1.2 2, 80, .inr (.inr (.inr (.inl (fun _ : Nat => (0 : UInt64))))))), (b16, .inl (E.1.2 1, 80, .inr (.inl (fun _ : Nat => (0 : Int64))))), (b15, .inl (E.1.2 1, 80, .inr (.inl (fun _ : Nat => (0 : Int64))))), (b14, .inl (E.1.2 1, 80, .inr (.inl (fun _ : Nat => (0 : Int64))))), (b13, .inl (E.1.2 1, 80, .inr (.inl (fun _ : Nat => (0 : Int64))))), (b8, .inl (E.1.2 0, 40, .inl (fun _ : Nat => (0 : Int32)))), (b7, .inl (E.1.2 0, 24, .inl nmF)), (b6, .inl (E.1.2 1, 3240, .inr (.inl (fun _ : Nat => (0 : Int64))))), (b5, .inl (E.1.2 0, 3240, .inl (fun _ : Nat => (0 : Int32)))), (b4, .inl (E.1.2 0, 3240, .inl (fun _ : Nat => (0 : Int32)))), (b3, .inl (E.1.2 0, 3240, .inl (fun _ : Nat => (0 : Int32)))), (b2, .inl (E.1.2 2, 81, .inr (.inr (.inr (.inl (fun _ : Nat => (0 : UInt64))))))), (b1, .inl (E.1.2 0, 81, .inl (fun _ : Nat => (0 : Int32)))), (b0, .inl (E.1.2 0, 81, .inl (fun _ : Nat => (0 : Int32))))]) : ∃ ad, mo_at E.1 h a ad moZ ∧ ∀ j, mo_ar j ≠ none → h0 (ad j) = none := by
  obtain ⟨j1, j2, j3, j4, j5⟩ := i
  refine ⟨fun j => [b33, b32, b31, b28, b27, b26, b25, b21, b20, b19, b18, b17, b16, b15, b14, b13, b8, b7, b6, b5, b4, b3, b2, b1, b0].getD (ixM j) 0, ⟨j1, fun j t n hj => ?_, fun i j hi hj e => ?_⟩, fun j hj => ?_⟩
  · unfold mo_ar at hj
    split at hj
    · cases hj
      exact (j3 (b0, .inl (E.1.2 0, 81, .inl (fun _ : Nat => (0 : Int32)))) (by repeat (first | exact List.mem_cons_self | apply List.mem_cons_of_mem))).2.1
    · cases hj
      exact (j3 (b1, .inl (E.1.2 0, 81, .inl (fun _ : Nat => (0 : Int32)))) (by repeat (first | exact List.mem_cons_self | apply List.mem_cons_of_mem))).2.1
    · cases hj
      exact (j3 (b2, .inl (E.1.2 2, 81, .inr (.inr (.inr (.inl (fun _ : Nat => (0 : UInt64))))))) (by repeat (first | exact List.mem_cons_self | apply List.mem_cons_of_mem))).2.1
    · cases hj
      exact (j3 (b3, .inl (E.1.2 0, 3240, .inl (fun _ : Nat => (0 : Int32)))) (by repeat (first | exact List.mem_cons_self | apply List.mem_cons_of_mem))).2.1
    · cases hj
      exact (j3 (b4, .inl (E.1.2 0, 3240, .inl (fun _ : Nat => (0 : Int32)))) (by repeat (first | exact List.mem_cons_self | apply List.mem_cons_of_mem))).2.1
    · cases hj
      exact (j3 (b5, .inl (E.1.2 0, 3240, .inl (fun _ : Nat => (0 : Int32)))) (by repeat (first | exact List.mem_cons_self | apply List.mem_cons_of_mem))).2.1
    · cases hj
      exact (j3 (b6, .inl (E.1.2 1, 3240, .inr (.inl (fun _ : Nat => (0 : Int64))))) (by repeat (first | exact List.mem_cons_self | apply List.mem_cons_of_mem))).2.1
    · cases hj
      exact (j3 (b7, .inl (E.1.2 0, 24, .inl nmF)) (by repeat (first | exact List.mem_cons_self | apply List.mem_cons_of_mem))).2.1
    · cases hj
      exact (j3 (b8, .inl (E.1.2 0, 40, .inl (fun _ : Nat => (0 : Int32)))) (by repeat (first | exact List.mem_cons_self | apply List.mem_cons_of_mem))).2.1
    · cases hj
      exact (j3 (b13, .inl (E.1.2 1, 80, .inr (.inl (fun _ : Nat => (0 : Int64))))) (by repeat (first | exact List.mem_cons_self | apply List.mem_cons_of_mem))).2.1
    · cases hj
      exact (j3 (b14, .inl (E.1.2 1, 80, .inr (.inl (fun _ : Nat => (0 : Int64))))) (by repeat (first | exact List.mem_cons_self | apply List.mem_cons_of_mem))).2.1
    · cases hj
      exact (j3 (b15, .inl (E.1.2 1, 80, .inr (.inl (fun _ : Nat => (0 : Int64))))) (by repeat (first | exact List.mem_cons_self | apply List.mem_cons_of_mem))).2.1
    · cases hj
      exact (j3 (b16, .inl (E.1.2 1, 80, .inr (.inl (fun _ : Nat => (0 : Int64))))) (by repeat (first | exact List.mem_cons_self | apply List.mem_cons_of_mem))).2.1
    · cases hj
      exact (j3 (b17, .inl (E.1.2 2, 80, .inr (.inr (.inr (.inl (fun _ : Nat => (0 : UInt64))))))) (by repeat (first | exact List.mem_cons_self | apply List.mem_cons_of_mem))).2.1
    · cases hj
      exact (j3 (b18, .inl (E.1.2 3, 80, .inl (fun _ : Nat => (0 : Int32)))) (by repeat (first | exact List.mem_cons_self | apply List.mem_cons_of_mem))).2.1
    · cases hj
      exact (j3 (b19, .inl (E.1.2 3, 80, .inl (fun _ : Nat => (0 : Int32)))) (by repeat (first | exact List.mem_cons_self | apply List.mem_cons_of_mem))).2.1
    · cases hj
      exact (j3 (b20, .inl (E.1.2 2, 44, .inr (.inr (.inr (.inl (fun _ : Nat => (0 : UInt64))))))) (by repeat (first | exact List.mem_cons_self | apply List.mem_cons_of_mem))).2.1
    · cases hj
      exact (j3 (b21, .inl (E.1.2 3, 44, .inl (fun _ : Nat => (0 : Int32)))) (by repeat (first | exact List.mem_cons_self | apply List.mem_cons_of_mem))).2.1
    · cases hj
      exact (j3 (b25, .inl (E.1.2 0, 8, .inl (fun _ : Nat => (0 : Int32)))) (by repeat (first | exact List.mem_cons_self | apply List.mem_cons_of_mem))).2.1
    · cases hj
      exact (j3 (b26, .inl (E.1.2 0, 8, .inl (fun _ : Nat => (0 : Int32)))) (by repeat (first | exact List.mem_cons_self | apply List.mem_cons_of_mem))).2.1
    · cases hj
      exact (j3 (b27, .inl (E.1.2 3, 8, .inl (fun _ : Nat => (0 : Int32)))) (by repeat (first | exact List.mem_cons_self | apply List.mem_cons_of_mem))).2.1
    · cases hj
      exact (j3 (b28, .inl (E.1.2 0, 44, .inl (fun _ : Nat => (0 : Int32)))) (by repeat (first | exact List.mem_cons_self | apply List.mem_cons_of_mem))).2.1
    · cases hj
      exact (j3 (b31, .inl (E.1.2 0, 400, .inl (fun _ : Nat => (0 : Int32)))) (by repeat (first | exact List.mem_cons_self | apply List.mem_cons_of_mem))).2.1
    · cases hj
      exact (j3 (b32, .inl (E.1.2 0, 44, .inl (fun _ : Nat => (0 : Int32)))) (by repeat (first | exact List.mem_cons_self | apply List.mem_cons_of_mem))).2.1
    · cases hj
      exact (j3 (b33, .inl (E.1.2 0, 44, .inl (fun _ : Nat => (0 : Int32)))) (by repeat (first | exact List.mem_cons_self | apply List.mem_cons_of_mem))).2.1
    · cases hj
  · have nd : [b33, b32, b31, b28, b27, b26, b25, b21, b20, b19, b18, b17, b16, b15, b14, b13, b8, b7, b6, b5, b4, b3, b2, b1, b0].Nodup := j2
    have li := ixM_lt i (mo_ar_lt hi) hi
    have lj := ixM_lt j (mo_ar_lt hj) hj
    exact ixM_inj i (mo_ar_lt hi) j (mo_ar_lt hj) hi hj (getD_inj nd li lj e)
  · unfold mo_ar at hj
    split at hj
    · exact (j3 (b0, .inl (E.1.2 0, 81, .inl (fun _ : Nat => (0 : Int32)))) (by repeat (first | exact List.mem_cons_self | apply List.mem_cons_of_mem))).2.2
    · exact (j3 (b1, .inl (E.1.2 0, 81, .inl (fun _ : Nat => (0 : Int32)))) (by repeat (first | exact List.mem_cons_self | apply List.mem_cons_of_mem))).2.2
    · exact (j3 (b2, .inl (E.1.2 2, 81, .inr (.inr (.inr (.inl (fun _ : Nat => (0 : UInt64))))))) (by repeat (first | exact List.mem_cons_self | apply List.mem_cons_of_mem))).2.2
    · exact (j3 (b3, .inl (E.1.2 0, 3240, .inl (fun _ : Nat => (0 : Int32)))) (by repeat (first | exact List.mem_cons_self | apply List.mem_cons_of_mem))).2.2
    · exact (j3 (b4, .inl (E.1.2 0, 3240, .inl (fun _ : Nat => (0 : Int32)))) (by repeat (first | exact List.mem_cons_self | apply List.mem_cons_of_mem))).2.2
    · exact (j3 (b5, .inl (E.1.2 0, 3240, .inl (fun _ : Nat => (0 : Int32)))) (by repeat (first | exact List.mem_cons_self | apply List.mem_cons_of_mem))).2.2
    · exact (j3 (b6, .inl (E.1.2 1, 3240, .inr (.inl (fun _ : Nat => (0 : Int64))))) (by repeat (first | exact List.mem_cons_self | apply List.mem_cons_of_mem))).2.2
    · exact (j3 (b7, .inl (E.1.2 0, 24, .inl nmF)) (by repeat (first | exact List.mem_cons_self | apply List.mem_cons_of_mem))).2.2
    · exact (j3 (b8, .inl (E.1.2 0, 40, .inl (fun _ : Nat => (0 : Int32)))) (by repeat (first | exact List.mem_cons_self | apply List.mem_cons_of_mem))).2.2
    · exact (j3 (b13, .inl (E.1.2 1, 80, .inr (.inl (fun _ : Nat => (0 : Int64))))) (by repeat (first | exact List.mem_cons_self | apply List.mem_cons_of_mem))).2.2
    · exact (j3 (b14, .inl (E.1.2 1, 80, .inr (.inl (fun _ : Nat => (0 : Int64))))) (by repeat (first | exact List.mem_cons_self | apply List.mem_cons_of_mem))).2.2
    · exact (j3 (b15, .inl (E.1.2 1, 80, .inr (.inl (fun _ : Nat => (0 : Int64))))) (by repeat (first | exact List.mem_cons_self | apply List.mem_cons_of_mem))).2.2
    · exact (j3 (b16, .inl (E.1.2 1, 80, .inr (.inl (fun _ : Nat => (0 : Int64))))) (by repeat (first | exact List.mem_cons_self | apply List.mem_cons_of_mem))).2.2
    · exact (j3 (b17, .inl (E.1.2 2, 80, .inr (.inr (.inr (.inl (fun _ : Nat => (0 : UInt64))))))) (by repeat (first | exact List.mem_cons_self | apply List.mem_cons_of_mem))).2.2
    · exact (j3 (b18, .inl (E.1.2 3, 80, .inl (fun _ : Nat => (0 : Int32)))) (by repeat (first | exact List.mem_cons_self | apply List.mem_cons_of_mem))).2.2
    · exact (j3 (b19, .inl (E.1.2 3, 80, .inl (fun _ : Nat => (0 : Int32)))) (by repeat (first | exact List.mem_cons_self | apply List.mem_cons_of_mem))).2.2
    · exact (j3 (b20, .inl (E.1.2 2, 44, .inr (.inr (.inr (.inl (fun _ : Nat => (0 : UInt64))))))) (by repeat (first | exact List.mem_cons_self | apply List.mem_cons_of_mem))).2.2
    · exact (j3 (b21, .inl (E.1.2 3, 44, .inl (fun _ : Nat => (0 : Int32)))) (by repeat (first | exact List.mem_cons_self | apply List.mem_cons_of_mem))).2.2
    · exact (j3 (b25, .inl (E.1.2 0, 8, .inl (fun _ : Nat => (0 : Int32)))) (by repeat (first | exact List.mem_cons_self | apply List.mem_cons_of_mem))).2.2
    · exact (j3 (b26, .inl (E.1.2 0, 8, .inl (fun _ : Nat => (0 : Int32)))) (by repeat (first | exact List.mem_cons_self | apply List.mem_cons_of_mem))).2.2
    · exact (j3 (b27, .inl (E.1.2 3, 8, .inl (fun _ : Nat => (0 : Int32)))) (by repeat (first | exact List.mem_cons_self | apply List.mem_cons_of_mem))).2.2
    · exact (j3 (b28, .inl (E.1.2 0, 44, .inl (fun _ : Nat => (0 : Int32)))) (by repeat (first | exact List.mem_cons_self | apply List.mem_cons_of_mem))).2.2
    · exact (j3 (b31, .inl (E.1.2 0, 400, .inl (fun _ : Nat => (0 : Int32)))) (by repeat (first | exact List.mem_cons_self | apply List.mem_cons_of_mem))).2.2
    · exact (j3 (b32, .inl (E.1.2 0, 44, .inl (fun _ : Nat => (0 : Int32)))) (by repeat (first | exact List.mem_cons_self | apply List.mem_cons_of_mem))).2.2
    · exact (j3 (b33, .inl (E.1.2 0, 44, .inl (fun _ : Nat => (0 : Int32)))) (by repeat (first | exact List.mem_cons_self | apply List.mem_cons_of_mem))).2.2
    · exact absurd rfl hj
