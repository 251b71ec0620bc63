/-! Pure: both sides together, and the law's helpers. -/
theorem fs_ki_ex {K : Int32 → fs_Hp → Prop} {X : String → fs_Hp → Prop} {h : fs_Hp} {C : String} (hk : X C h) : fs_ki K X (.inr C) h := hk
theorem fs_kv_ex {K : fs_Hp → Prop} {X : String → fs_Hp → Prop} {h : fs_Hp} {C : String} (hk : X C h) : fs_kv K X (.inr C) h := hk
theorem fs_kd_ex {K : UInt64 → fs_Hp → Prop} {X : String → fs_Hp → Prop} {h : fs_Hp} {C : String} (hk : X C h) : fs_kd K X (.inr C) h := hk
theorem lg_self (x : Int64) : lg_cmp x x = 0 := (lg_cmp_eq x x).mpr rfl
theorem dc_self {d : UInt64} (h : nn d) : Op.cmpValue (FP.dcmp d d) .l = 0 := by
  have e : FP.dcmp d d = _ := FP.Core.dcmp_key h h
  rw [e]
  exact (cmpV_eq _ _ _).mpr rfl
/-- the places that are not the class's -/
def UU (z2 : Nat) (ad : Nat → Nat) (z3 z4 q : Nat) : Prop := q = z2 ∨ (∃ j, mo_ar j ≠ none ∧ q = ad j) ∨ q = z3 ∨ q = z4
def LI (E : fs_E) (ad : Nat → Nat) (z1 z2 z3 z4 : Nat) (h : fs_Hp) (A : Shh) (f : Nat → Int32) (n : Nat) (er : Int32) (M : mo_S) (g3 : Nat → Int64) (g4 : Nat → UInt64) : Prop := CI E (UU z2 ad z3 z4) h z1 A f n er ∧ mo_at E.1 h z2 ad M ∧ h z3 = some (.inl (E.1.2 1, 1, .inr (.inl g3))) ∧ h z4 = some (.inl (E.1.2 2, 1, .inr (.inr (.inr (.inl g4))))) ∧ ∀ j, mo_ar j ≠ none → z3 ≠ ad j ∧ z4 ≠ ad j
section
variable {E : fs_E} {ad : Nat → Nat} {z1 z2 z3 z4 n n' : Nat} {h h' : fs_Hp} {A A' : Shh} {f f' : Nat → Int32} {er er' : Int32} {M M' : mo_S} {g3 : Nat → Int64} {g4 : Nat → UInt64} {Post : fs_Ps}
theorem arr_ne {x : ClassId × vp_A} {o : Option va_E} (e : o = some (.inl x)) : o ≠ none ∧ ∀ fs, o ≠ some (.inr (5, fs)) := by
  rw [e]
  exact ⟨fun z => (by cases z), fun fs z => (by cases z)⟩
theorem uu_ok (m : mo_at E.1 h z2 ad M) {x3 x4 : ClassId × vp_A} (e3 : h z3 = some (.inl x3)) (e4 : h z4 = some (.inl x4)) : ∀ q, UU z2 ad z3 z4 q → h q ≠ none ∧ ∀ fs, h q ≠ some (.inr (5, fs)) := by
  rintro q (rfl | ⟨j, hj, rfl⟩ | rfl | rfl)
  · rw [m.1]
    refine ⟨fun z => (by cases z), fun fs z => ?_⟩
    have : (10 : Nat) = 5 := congrArg (fun o : Option va_E => knd o - 10) z
    omega
  · cases e : mo_ar j with
    | none => exact absurd e hj
    | some y =>
      obtain ⟨t, k⟩ := y
      exact arr_ne (m.2.1 j t k e)
  · exact arr_ne e3
  · exact arr_ne e4
theorem LI.cls (a : LI E ad z1 z2 z3 z4 h A f n er M g3 g4) (c : CI E (UU z2 ad z3 z4) h' z1 A' f' n' er') (u : fU (UU z2 ad z3 z4) h h') : LI E ad z1 z2 z3 z4 h' A' f' n' er' M g3 g4 := by
  obtain ⟨_, m, e3, e4, d⟩ := a
  refine ⟨c, ⟨(u z2 (Or.inl rfl)).trans m.1, fun j t k hj => ?_, m.2.2⟩, (u z3 (Or.inr (Or.inr (Or.inl rfl)))).trans e3, (u z4 (Or.inr (Or.inr (Or.inr rfl)))).trans e4, d⟩
  exact (u (ad j) (Or.inr (Or.inl ⟨j, by rw [hj]; exact fun z => (by cases z), rfl⟩))).trans (m.2.1 j t k hj)
theorem LI.mod (a : LI E ad z1 z2 z3 z4 h A f n er M g3 g4) (m : mo_at E.1 h' z2 ad M') (fr : mo_fr z2 ad h h') : LI E ad z1 z2 z3 z4 h' A f n er M' g3 g4 := by
  obtain ⟨c, m0, e3, e4, d⟩ := a
  have n3 : z3 ≠ z2 := fun z => by rw [z, m0.1] at e3; cases e3
  have n4 : z4 ≠ z2 := fun z => by rw [z, m0.1] at e4; cases e4
  have k3 := (fr z3 n3 fun j hj => (d j hj).1).trans e3
  have k4 := (fr z4 n4 fun j hj => (d j hj).2).trans e4
  exact ⟨c.kept (fun q hq => fr q (fun z => hq (Or.inl z)) fun j hj z => hq (Or.inr (Or.inl ⟨j, hj, z⟩))) (uu_ok m k3 k4), m, k3, k4, d⟩
theorem LI.out3 (a : LI E ad z1 z2 z3 z4 h A f n er M g3 g4) (g : Nat → Int64) : LI E ad z1 z2 z3 z4 (fs_up h z3 (.inl (E.1.2 1, 1, .inr (.inl g)))) A f n er M g g4 := by
  obtain ⟨c, m0, e3, e4, d⟩ := a
  have n3 : z2 ≠ z3 := fun z => by rw [← z, m0.1] at e3; cases e3
  have n4 : z4 ≠ z3 := fun z => by
    rw [z, e3] at e4
    exact absurd (congrArg knd e4) (show ¬ (2 : Nat) = 4 by decide)
  have m1 : mo_at E.1 (fs_up h z3 (.inl (E.1.2 1, 1, .inr (.inl g)))) z2 ad M := ⟨(fs_up_ne n3).trans m0.1, fun j t k hj => (fs_up_ne (Ne.symm (d j (by rw [hj]; exact fun z => by cases z)).1)).trans (m0.2.1 j t k hj), m0.2.2⟩
  have k4 : fs_up h z3 (.inl (E.1.2 1, 1, .inr (.inl g))) z4 = _ := (fs_up_ne n4).trans e4
  exact ⟨c.kept (fun q hq => fs_up_ne fun z => hq (Or.inr (Or.inr (Or.inl z)))) (uu_ok m1 fs_up_self k4), m1, fs_up_self, k4, d⟩
theorem LI.out4 (a : LI E ad z1 z2 z3 z4 h A f n er M g3 g4) (g : Nat → UInt64) : LI E ad z1 z2 z3 z4 (fs_up h z4 (.inl (E.1.2 2, 1, .inr (.inr (.inr (.inl g)))))) A f n er M g3 g := by
  obtain ⟨c, m0, e3, e4, d⟩ := a
  have n3 : z2 ≠ z4 := fun z => by rw [← z, m0.1] at e4; cases e4
  have n4 : z3 ≠ z4 := fun z => by
    rw [z, e4] at e3
    exact absurd (congrArg knd e3) (show ¬ (4 : Nat) = 2 by decide)
  have m1 : mo_at E.1 (fs_up h z4 (.inl (E.1.2 2, 1, .inr (.inr (.inr (.inl g)))))) z2 ad M := ⟨(fs_up_ne n3).trans m0.1, fun j t k hj => (fs_up_ne (Ne.symm (d j (by rw [hj]; exact fun z => by cases z)).2)).trans (m0.2.1 j t k hj), m0.2.2⟩
  have k3 : fs_up h z4 (.inl (E.1.2 2, 1, .inr (.inr (.inr (.inl g))))) z3 = _ := (fs_up_ne n4).trans e3
  exact ⟨c.kept (fun q hq => fs_up_ne fun z => hq (Or.inr (Or.inr (Or.inr z)))) (uu_ok m1 k3 fs_up_self), m1, k3, fs_up_self, d⟩
theorem CI.isc {U : Nat → Prop} {x : Nat} (c : CI E U h x A f n er) : fs_isc h x 0 := by
  obtain ⟨ln, ch, ce, fil, fo, va, re, ga, od, sb, v, cap, t, x2, x3, st, bf, vf, ff, rf, oo, Fs, c⟩ := c
  exact fs_isc_of c.1.1
/-- a number goes out -/
theorem LI.wr3 (a : LI E ad z1 z2 z3 z4 h A f n er M g3 g4) {y : Int64} {K : fs_Hp → Prop} (hK : ∀ h' g, LI E ad z1 z2 z3 z4 h' A f n er M g g4 → g 0 = y → K h') : fs_sl h z3 (E.1.2 1) 0 y K := by
  refine fs_sl_of a.2.2.1 (show vp_in (0 : Int32) 1 from nI_in (c := 0) (by decide) (by decide)) ?_
  exact hK _ _ (a.out3 _) rfl
theorem LI.wr4 (a : LI E ad z1 z2 z3 z4 h A f n er M g3 g4) {y : UInt64} {K : fs_Hp → Prop} (hK : ∀ h' g, LI E ad z1 z2 z3 z4 h' A f n er M g3 g → g 0 = y → K h') : fs_sd h z4 (E.1.2 2) 0 y K := by
  refine fs_sd_of a.2.2.2.1 (show vp_in (0 : Int32) 1 from nI_in (c := 0) (by decide) (by decide)) ?_
  exact hK _ _ (a.out4 _) rfl
/-! what the helpers answer -/
theorem lk_type (a : LI E ad z1 z2 z3 z4 h A f n er M g3 g4) {y : Int32} (K1 : (y < 0 ∨ ¬ y ≤ 127) → Post (.inl (some (.int 1))) h) (K2 : ∀ k : Nat, k < 128 → y = nI k → n = 40 → Post (.inl (some (.int 2))) h) (K0 : ∀ k : Nat, k < 128 → y = nI k → n < 40 → ∀ h' g, LI E ad z1 z2 z3 z4 h' A (upd f n (nI k)) (n + 1) er M g g4 → g 0 = Int32.toInt64 (nI (n + 1)) → Post (.inl (some (.int 0))) h') : w_LW_type 1000 14000 E h z1 y z3 Post := by
  refine ⟨1000, 14000, Nat.le_refl _, Nat.le_refl _, a.1.isc, ?_⟩
  exact sh_type a.1 (by decide) (by decide) (fun e => fs_ki_ex (Or.inl ⟨rfl, K1 e⟩)) (fun k h1 h2 h3 => fs_ki_ex (Or.inr ⟨rfl, K2 k h1 h2 h3⟩)) (fun k h1 h2 h3 h' c u => fs_ki_of ((a.cls c u).wr3 fun h'' g b e => K0 k h1 h2 h3 h'' g b e))
theorem lk_enter (a : LI E ad z1 z2 z3 z4 h A f n er M g3 g4) {y1 y2 : Int32} (K1 : p_MO_out y1 y2 = 1 → Post (.inl (some (.int 1))) h) (K2 : ∀ C W : Nat, C < 8 → W < 10 → y1 = nI C → y2 = nI W → (ps_read (pa_n f n) n).1 = none → ∀ h', LI E ad z1 z2 z3 z4 h' A f 0 (nI (ps_read (pa_n f n) n).2) M g3 g4 → Post (.inl (some (.int 2))) h') (K0 : ∀ C W : Nat, C < 8 → W < 10 → y1 = nI C → y2 = nI W → ∀ L, (ps_read (pa_n f n) n).1 = some L → fok L → ∀ h' g, LI E ad z1 z2 z3 z4 h' (fun j => if j = W * 8 + C then some (.inr L) else A j) f 0 (-1) M g g4 → g 0 = Int32.toInt64 (nI (cnt (rck L))) → Post (.inl (some (.int 0))) h') : w_LW_enter 1000 14000 E h z1 y1 y2 z3 Post := by
  refine ⟨1000, 14000, Nat.le_refl _, Nat.le_refl _, a.1.isc, ?_⟩
  exact sh_enter a.1 (by decide) (by decide) (fun e => fs_ki_ex (Or.inl ⟨rfl, K1 e⟩)) (fun C W h1 h2 h3 h4 h5 h' c u => fs_ki_ex (Or.inr ⟨rfl, K2 C W h1 h2 h3 h4 h5 h' (a.cls c u)⟩)) (fun C W h1 h2 h3 h4 L h5 h6 h' c u => fs_ki_of ((a.cls c u).wr3 fun h'' g b e => K0 C W h1 h2 h3 h4 L h5 h6 h'' g b e))
theorem lk_put (a : LI E ad z1 z2 z3 z4 h A f n er M g3 g4) {y1 y2 : Int32} {d : UInt64} (hd : nn d) (K1 : p_MO_out y1 y2 = 1 → Post (.inl (some (.int 1))) h) (K2 : ∀ C W : Nat, C < 8 → W < 10 → y1 = nI C → y2 = nI W → ¬ nb d → Post (.inl (some (.int 2))) h) (K0 : ∀ C W : Nat, C < 8 → W < 10 → y1 = nI C → y2 = nI W → nb d → ∀ h', LI E ad z1 z2 z3 z4 h' (fun j => if j = W * 8 + C then some (.inl d) else A j) f n er M g3 g4 → Post (.inl (some (.int 0))) h') : w_LW_put 1000 14000 E h z1 y1 y2 d Post := by
  refine ⟨1000, 14000, Nat.le_refl _, Nat.le_refl _, a.1.isc, ?_⟩
  exact sh_put a.1 hd (by decide) (by decide) (fun e => fs_kv_ex (Or.inl ⟨rfl, K1 e⟩)) (fun C W h1 h2 h3 h4 h5 => fs_kv_ex (Or.inr ⟨rfl, K2 C W h1 h2 h3 h4 h5⟩)) (fun C W h1 h2 h3 h4 h5 h' c u => fs_kv_of (K0 C W h1 h2 h3 h4 h5 h' (a.cls c u)))
theorem lk_erase (a : LI E ad z1 z2 z3 z4 h A f n er M g3 g4) {y1 y2 : Int32} (K1 : p_MO_out y1 y2 = 1 → Post (.inl (some (.int 1))) h) (K2 : ∀ C W : Nat, C < 8 → W < 10 → y1 = nI C → y2 = nI W → A (W * 8 + C) = none → Post (.inl (some (.int 2))) h) (K0 : ∀ C W : Nat, C < 8 → W < 10 → y1 = nI C → y2 = nI W → A (W * 8 + C) ≠ none → ∀ h', LI E ad z1 z2 z3 z4 h' (fun j => if j = W * 8 + C then none else A j) f n er M g3 g4 → Post (.inl (some (.int 0))) h') : w_LW_erase 1000 14000 E h z1 y1 y2 Post := by
  refine ⟨1000, 14000, Nat.le_refl _, Nat.le_refl _, a.1.isc, ?_⟩
  exact sh_erase a.1 (by decide) (by decide) (fun e => fs_kv_ex (Or.inl ⟨rfl, K1 e⟩)) (fun C W h1 h2 h3 h4 h5 => fs_kv_ex (Or.inr ⟨rfl, K2 C W h1 h2 h3 h4 h5⟩)) (fun C W h1 h2 h3 h4 h5 h' c u => fs_kv_of (K0 C W h1 h2 h3 h4 h5 h' (a.cls c u)))
theorem lk_copy (a : LI E ad z1 z2 z3 z4 h A f n er M g3 g4) (hA : shok A) {y1 y2 y3 y4 : Int32} (K1 : (p_MO_out y1 y2 = 1 ∨ p_MO_out y3 y4 = 1) → Post (.inl (some (.int 1))) h) (K2 : ∀ C W C' W' : Nat, C < 8 → W < 10 → C' < 8 → W' < 10 → y1 = nI C → y2 = nI W → y3 = nI C' → y4 = nI W' → A (W * 8 + C) = none → Post (.inl (some (.int 2))) h) (K0 : ∀ C W C' W' : Nat, C < 8 → W < 10 → C' < 8 → W' < 10 → y1 = nI C → y2 = nI W → y3 = nI C' → y4 = nI W' → A (W * 8 + C) ≠ none → ∀ h' g, LI E ad z1 z2 z3 z4 h' (copS A (W * 8 + C) (W' * 8 + C') (y3 - y1) (y4 - y2)) f n er M g g4 → g 0 = Int32.toInt64 (nI (lsC (mpC (itM (y3 - y1) (y4 - y2)) (A (W * 8 + C)))) - nI (lsC (A (W * 8 + C)))) → Post (.inl (some (.int 0))) h') : w_LW_copy 1000 14000 E h z1 y1 y2 y3 y4 z3 Post := by
  refine ⟨1000, 14000, Nat.le_refl _, Nat.le_refl _, a.1.isc, ?_⟩
  exact sh_copy a.1 hA (by decide) (by decide) (fun e => fs_ki_ex (Or.inl ⟨rfl, K1 e⟩)) (fun C W C' W' h1 h2 h3 h4 h5 h6 h7 h8 h9 => fs_ki_ex (Or.inr ⟨rfl, K2 C W C' W' h1 h2 h3 h4 h5 h6 h7 h8 h9⟩)) (fun C W C' W' h1 h2 h3 h4 h5 h6 h7 h8 h9 h' c u => fs_ki_of ((a.cls c u).wr3 fun h'' g b e => K0 C W C' W' h1 h2 h3 h4 h5 h6 h7 h8 h9 h'' g b e))
theorem lk_insert (a : LI E ad z1 z2 z3 z4 h A f n er M g3 g4) {y : Int32} (K1 : p_MO_out 0 y = 1 → Post (.inl (some (.int 1))) h) (K0 : ∀ W : Nat, W < 10 → y = nI W → ∀ h' g, LI E ad z1 z2 z3 z4 h' (insS A W) f n er M g g4 → g 0 = Int32.toInt64 (nI (rowc A 9)) → Post (.inl (some (.int 0))) h') : w_LW_insert 1000 14000 E h z1 y z3 Post := by
  refine ⟨1000, 14000, Nat.le_refl _, Nat.le_refl _, a.1.isc, ?_⟩
  exact sh_insert a.1 (by decide) (by decide) (fun e => fs_ki_ex ⟨rfl, K1 e⟩) (fun W h1 h2 h' c u => fs_ki_of ((a.cls c u).wr3 fun h'' g b e => K0 W h1 h2 h'' g b e))
theorem lk_delete (a : LI E ad z1 z2 z3 z4 h A f n er M g3 g4) {y : Int32} (K1 : p_MO_out 0 y = 1 → Post (.inl (some (.int 1))) h) (K0 : ∀ W : Nat, W < 10 → y = nI W → ∀ h' g, LI E ad z1 z2 z3 z4 h' (delS A W) f n er M g g4 → g 0 = Int32.toInt64 (nI (rowc A W)) → Post (.inl (some (.int 0))) h') : w_LW_delete 1000 14000 E h z1 y z3 Post := by
  refine ⟨1000, 14000, Nat.le_refl _, Nat.le_refl _, a.1.isc, ?_⟩
  exact sh_delete a.1 (by decide) (by decide) (fun e => fs_ki_ex ⟨rfl, K1 e⟩) (fun W h1 h2 h' c u => fs_ki_of ((a.cls c u).wr3 fun h'' g b e => K0 W h1 h2 h'' g b e))
theorem lk_value (hE : fs_In E) (a : LI E ad z1 z2 z3 z4 h A f n er M g3 g4) (hA : shok A) {y1 y2 : Int32} (K1 : p_MO_out y1 y2 = 1 → Post (.inl (some (.int 1))) h) (K2 : ∀ C W : Nat, C < 8 → W < 10 → y1 = nI C → y2 = nI W → A (W * 8 + C) = none → Post (.inl (some (.int 2))) h) (K3 : ∀ C W : Nat, C < 8 → W < 10 → y1 = nI C → y2 = nI W → A (W * 8 + C) ≠ none → rea A (W * 8 + C) (W * 8 + C) = true → ∀ h', LI E ad z1 z2 z3 z4 h' A f n er M g3 g4 → Post (.inl (some (.int 3))) h') (K4 : ∀ C W : Nat, C < 8 → W < 10 → y1 = nI C → y2 = nI W → A (W * 8 + C) ≠ none → rea A (W * 8 + C) (W * 8 + C) = false → val A (W * 8 + C) = none → ∀ h', LI E ad z1 z2 z3 z4 h' A f n er M g3 g4 → Post (.inl (some (.int 4))) h') (K0 : ∀ C W : Nat, C < 8 → W < 10 → y1 = nI C → y2 = nI W → A (W * 8 + C) ≠ none → rea A (W * 8 + C) (W * 8 + C) = false → ∀ d, nb d → val A (W * 8 + C) = some d → ∀ h' g, LI E ad z1 z2 z3 z4 h' A f n er M g3 g → g 0 = d → Post (.inl (some (.int 0))) h') : w_LW_value 1000 14000 E h z1 y1 y2 z4 Post := by
  refine ⟨1000, 14000, Nat.le_refl _, Nat.le_refl _, a.1.isc, ?_⟩
  exact sh_value hE hA a.1 (by decide) (by decide) (fun e => fs_kd_ex (Or.inl ⟨rfl, K1 e⟩)) (fun C W h1 h2 h3 h4 h5 => fs_kd_ex (Or.inr (Or.inl ⟨rfl, K2 C W h1 h2 h3 h4 h5⟩))) (fun C W h1 h2 h3 h4 h5 h6 h' c u => fs_kd_ex (Or.inr (Or.inr (Or.inl ⟨rfl, K3 C W h1 h2 h3 h4 h5 h6 h' (a.cls c u)⟩)))) (fun C W h1 h2 h3 h4 h5 h6 h7 h' c u => fs_kd_ex (Or.inr (Or.inr (Or.inr ⟨rfl, K4 C W h1 h2 h3 h4 h5 h6 h7 h' (a.cls c u)⟩)))) (fun C W h1 h2 h3 h4 h5 h6 d h7 h8 h' c u => fs_kd_of ((a.cls c u).wr4 fun h'' g b e => K0 C W h1 h2 h3 h4 h5 h6 d h7 h8 h'' g b e))
theorem lk_kind (hE : fs_In E) (a : LI E ad z1 z2 z3 z4 h A f n er M g3 g4) (hA : shok A) {y1 y2 : Int32} (K1 : p_MO_out y1 y2 = 1 → Post (.inl (some (.int 1))) h) (K0 : ∀ C W : Nat, C < 8 → W < 10 → y1 = nI C → y2 = nI W → ∀ h' g, LI E ad z1 z2 z3 z4 h' A f n er M g g4 → g 0 = Int32.toInt64 (kdA A (W * 8 + C)) → Post (.inl (some (.int 0))) h') : w_LW_kind 1000 14000 E h z1 y1 y2 z3 Post := by
  refine ⟨1000, 14000, Nat.le_refl _, Nat.le_refl _, a.1.isc, ?_⟩
  exact sh_kind hE hA a.1 (by decide) (by decide) (fun e => fs_ki_ex ⟨rfl, K1 e⟩) (fun C W h1 h2 h3 h4 h' c u => fs_ki_of ((a.cls c u).wr3 fun h'' g b e => K0 C W h1 h2 h3 h4 h'' g b e))
theorem lk_text (a : LI E ad z1 z2 z3 z4 h A f n er M g3 g4) (hA : shok A) {y1 y2 y3 : Int32} (K1 : p_MO_out y1 y2 = 1 → Post (.inl (some (.int 1))) h) (K2 : ∀ C W : Nat, C < 8 → W < 10 → y1 = nI C → y2 = nI W → (∀ L, A (W * 8 + C) ≠ some (.inr L)) → Post (.inl (some (.int 2))) h) (K0 : ∀ C W : Nat, C < 8 → W < 10 → y1 = nI C → y2 = nI W → ∀ L, A (W * 8 + C) = some (.inr L) → ∀ h' g, LI E ad z1 z2 z3 z4 h' A f n er M g g4 → g 0 = Int32.toInt64 (txc (tex L) y3) → Post (.inl (some (.int 0))) h') : w_LW_text 1000 14000 E h z1 y1 y2 y3 z3 Post := by
  refine ⟨1000, 14000, Nat.le_refl _, Nat.le_refl _, a.1.isc, ?_⟩
  exact sh_text hA a.1 (by decide) (by decide) (fun e => fs_ki_ex (Or.inl ⟨rfl, K1 e⟩)) (fun C W h1 h2 h3 h4 h5 => fs_ki_ex (Or.inr ⟨rfl, K2 C W h1 h2 h3 h4 h5⟩)) (fun C W h1 h2 h3 h4 L h5 h' c u => fs_ki_of ((a.cls c u).wr3 fun h'' g b e => K0 C W h1 h2 h3 h4 L h5 h'' g b e))
theorem lk_reaches (hE : fs_In E) (a : LI E ad z1 z2 z3 z4 h A f n er M g3 g4) (hA : shok A) {y1 y2 y3 y4 : Int32} (K1 : (p_MO_out y1 y2 = 1 ∨ p_MO_out y3 y4 = 1) → Post (.inl (some (.int 1))) h) (K0 : ∀ C W C' W' : Nat, C < 8 → W < 10 → C' < 8 → W' < 10 → y1 = nI C → y2 = nI W → y3 = nI C' → y4 = nI W' → ∀ h' g, LI E ad z1 z2 z3 z4 h' A f n er M g g4 → g 0 = (if rea A (W * 8 + C) (W' * 8 + C') = true then 1 else 0) → Post (.inl (some (.int 0))) h') : w_LW_reaches 1000 14000 E h z1 y1 y2 y3 y4 z3 Post := by
  refine ⟨1000, 14000, Nat.le_refl _, Nat.le_refl _, a.1.isc, ?_⟩
  refine sh_reaches hE hA a.1 (by decide) (by decide) (fun e => fs_ki_ex ⟨rfl, K1 e⟩) (fun C W C' W' h1 h2 h3 h4 h5 h6 h7 h8 h' c u => fs_ki_of ?_)
  have K9 := K0 C W C' W' h1 h2 h3 h4 h5 h6 h7 h8
  cases e : rea A (W * 8 + C) (W' * 8 + C') with
  | true =>
    rw [bi_1 rfl, if_neg (show ¬ (1 : Int32) = 0 by decide)]
    exact (a.cls c u).wr3 fun h'' g b w => K9 h'' g b (by rw [e, if_pos rfl]; exact w)
  | false =>
    rw [bi_0 rfl, if_pos rfl]
    exact (a.cls c u).wr3 fun h'' g b w => K9 h'' g b (by rw [e, if_neg (by decide)]; exact w)
/-! the reference's calls -/
theorem mc_type {k : Nat} (q : M.1 9 = nI k) (q4 : k ≤ 40) {y : Int32} (a : LI E ad z1 z2 z3 z4 h A f n er M g3 g4) (K : ∀ h'', LI E ad z1 z2 z3 z4 h'' A f n er (p_MO_type M y).2 g3 g4 → Post (.inl (some (.int (p_MO_type M y).1))) h'') : w_MO_type E h z2 y Post := ⟨ad, M, a.2.1, ⟨by rw [q, nI_toInt (by omega)]; omega, by rw [q, nI_toInt (by omega)]; omega⟩, fun h'' m fr => K h'' (a.mod m fr)⟩
theorem mc_errorAt (a : LI E ad z1 z2 z3 z4 h A f n er M g3 g4) (K : ∀ h'', LI E ad z1 z2 z3 z4 h'' A f n er (p_MO_errorAt M).2 g3 g4 → Post (.inl (some (.int (p_MO_errorAt M).1))) h'') : w_MO_errorAt E h z2 Post := ⟨ad, M, a.2.1, fun h'' m fr => K h'' (a.mod m fr)⟩
theorem mc_put (a : LI E ad z1 z2 z3 z4 h A f n er M g3 g4) {y1 y2 : Int32} {d : UInt64} (K : ∀ h'', LI E ad z1 z2 z3 z4 h'' A f n er (p_MO_put M y1 y2 d) g3 g4 → Post (.inl none) h'') : w_MO_put E h z2 y1 y2 d Post := ⟨ad, M, a.2.1, fun h'' m fr => K h'' (a.mod m fr)⟩
theorem mc_erase (a : LI E ad z1 z2 z3 z4 h A f n er M g3 g4) {y1 y2 : Int32} (K : ∀ h'', LI E ad z1 z2 z3 z4 h'' A f n er (p_MO_erase M y1 y2) g3 g4 → Post (.inl none) h'') : w_MO_erase E h z2 y1 y2 Post := ⟨ad, M, a.2.1, fun h'' m fr => K h'' (a.mod m fr)⟩
theorem mc_copy (hz : mo_sz M) (a : LI E ad z1 z2 z3 z4 h A f n er M g3 g4) {y1 y2 y3 y4 : Int32} (K : ∀ h'', LI E ad z1 z2 z3 z4 h'' A f n er (p_MO_copy M y1 y2 y3 y4).2 g3 g4 → Post (.inl (some (.int (p_MO_copy M y1 y2 y3 y4).1))) h'') : w_MO_copy E h z2 y1 y2 y3 y4 Post := ⟨ad, M, a.2.1, hz, fun h'' m fr => K h'' (a.mod m fr)⟩
theorem mc_insert (hz : mo_sz M) (a : LI E ad z1 z2 z3 z4 h A f n er M g3 g4) {y : Int32} (K : ∀ h'', LI E ad z1 z2 z3 z4 h'' A f n er (p_MO_insert M y).2 g3 g4 → Post (.inl (some (.int (p_MO_insert M y).1))) h'') : w_MO_insert E h z2 y Post := ⟨ad, M, a.2.1, hz, fun h'' m fr => K h'' (a.mod m fr)⟩
theorem mc_delete (hz : mo_sz M) (a : LI E ad z1 z2 z3 z4 h A f n er M g3 g4) {y : Int32} (K : ∀ h'', LI E ad z1 z2 z3 z4 h'' A f n er (p_MO_delete M y).2 g3 g4 → Post (.inl (some (.int (p_MO_delete M y).1))) h'') : w_MO_delete E h z2 y Post := ⟨ad, M, a.2.1, hz, fun h'' m fr => K h'' (a.mod m fr)⟩
theorem mc_enter {y1 y2 : Int32} {r : Int32 × mo_S} (e : q_MO_enter M y1 y2 = some r) (a : LI E ad z1 z2 z3 z4 h A f n er M g3 g4) (K : ∀ h'', LI E ad z1 z2 z3 z4 h'' A f n er r.2 g3 g4 → Post (.inl (some (.int r.1))) h'') : w_MO_enter E h z2 y1 y2 Post := ⟨ad, M, r, a.2.1, e, fun h'' m fr => K h'' (a.mod m fr)⟩
theorem mc_value {y1 y2 : Int32} {r : UInt64 × mo_S} (e : q_MO_value M y1 y2 = some r) (a : LI E ad z1 z2 z3 z4 h A f n er M g3 g4) (K : ∀ h'', LI E ad z1 z2 z3 z4 h'' A f n er r.2 g3 g4 → Post (.inl (some (.double r.1))) h'') : w_MO_value E h z2 y1 y2 Post := ⟨ad, M, r, a.2.1, e, fun h'' m fr => K h'' (a.mod m fr)⟩
theorem mc_kind {y1 y2 : Int32} {r : Int32 × mo_S} (e : q_MO_kind M y1 y2 = some r) (a : LI E ad z1 z2 z3 z4 h A f n er M g3 g4) (K : ∀ h'', LI E ad z1 z2 z3 z4 h'' A f n er r.2 g3 g4 → Post (.inl (some (.int r.1))) h'') : w_MO_kind E h z2 y1 y2 Post := ⟨ad, M, r, a.2.1, e, fun h'' m fr => K h'' (a.mod m fr)⟩
theorem mc_text {y1 y2 y3 : Int32} {r : Int32 × mo_S} (e : q_MO_text M y1 y2 y3 = some r) (a : LI E ad z1 z2 z3 z4 h A f n er M g3 g4) (K : ∀ h'', LI E ad z1 z2 z3 z4 h'' A f n er r.2 g3 g4 → Post (.inl (some (.int r.1))) h'') : w_MO_text E h z2 y1 y2 y3 Post := ⟨ad, M, r, a.2.1, e, fun h'' m fr => K h'' (a.mod m fr)⟩
theorem mc_reaches {y1 y2 y3 y4 : Int32} {r : Int32 × mo_S} (e : q_MO_reaches M y1 y2 y3 y4 = some r) (a : LI E ad z1 z2 z3 z4 h A f n er M g3 g4) (K : ∀ h'', LI E ad z1 z2 z3 z4 h'' A f n er r.2 g3 g4 → Post (.inl (some (.int r.1))) h'') : w_MO_reaches E h z2 y1 y2 y3 y4 Post := ⟨ad, M, r, a.2.1, e, fun h'' m fr => K h'' (a.mod m fr)⟩
theorem mc_count {y : Int32} {r : Int32 × mo_S} (e : q_MO_count M y = some r) (a : LI E ad z1 z2 z3 z4 h A f n er M g3 g4) (K : ∀ h'', LI E ad z1 z2 z3 z4 h'' A f n er r.2 g3 g4 → Post (.inl (some (.int r.1))) h'') : w_MO_count E h z2 y Post := ⟨ad, M, r, a.2.1, e, fun h'' m fr => K h'' (a.mod m fr)⟩
theorem LI.is10 (a : LI E ad z1 z2 z3 z4 h A f n er M g3 g4) : fs_isc h z2 10 := fs_isc_of a.2.1.1
theorem mc_thrown (a : LI E ad z1 z2 z3 z4 h A f n er M g3 g4) (K : ∀ h'', LI E ad z1 z2 z3 z4 h'' A f n er M g3 g4 → Post (.inl (some (.int (M.1 11)))) h'') : w_MO_thrown E h z2 Post := ⟨ad, M, a.2.1, fun h'' m fr => K h'' (a.mod m fr)⟩
/-! the law's comparisons -/
theorem tl3 {N B : fs_Hp → Prop} {X : String → fs_Hp → Prop} {k b : Int32} (a : LI E ad z1 z2 z3 z4 h A f n er M g3 g4) (hk : M.1 11 = k) (hb : k = 0 → g3 0 = Int32.toInt64 b) (next : ∀ h', LI E ad z1 z2 z3 z4 h' A f n er M g3 g4 → N h') : fs_isc h z2 10 ∧ (w_MO_thrown E h z2 (fs_ki (fun x125 h124 => (if x125 = k then (if k = 0 then fs_al h124 z3 (E.1.2 1) 0 (fun x128 => (if (lg_cmp x128 (Int32.toInt64 b)) = 0 then N h124 else B h124)) else N h124) else B h124)) X)) := by
  refine ⟨a.is10, mc_thrown a fun h' a' => fs_ki_of ?_⟩
  rw [if_pos hk]
  by_cases z : k = 0
  · rw [if_pos z]
    refine fs_al_of a'.2.2.1 (show vp_in (0 : Int32) 1 from nI_in (c := 0) (by decide) (by decide)) ?_
    have e : g3 (Int32.toNatClampNeg 0) = Int32.toInt64 b := hb z
    rw [e, if_pos (lg_self _)]
    exact next h' a'
  · rw [if_neg z]
    exact next h' a'
theorem tl0 {N B : fs_Hp → Prop} {X : String → fs_Hp → Prop} {k : Int32} (a : LI E ad z1 z2 z3 z4 h A f n er M g3 g4) (hk : M.1 11 = k) (next : ∀ h', LI E ad z1 z2 z3 z4 h' A f n er M g3 g4 → N h') : fs_isc h z2 10 ∧ (w_MO_thrown E h z2 (fs_ki (fun x125 h124 => (if x125 = k then N h124 else B h124)) X)) := by
  refine ⟨a.is10, mc_thrown a fun h' a' => fs_ki_of ?_⟩
  rw [if_pos hk]
  exact next h' a'
theorem tl4 {N B : fs_Hp → Prop} {X : String → fs_Hp → Prop} {k : Int32} {b : UInt64} (a : LI E ad z1 z2 z3 z4 h A f n er M g3 g4) (hk : M.1 11 = k) (hb : k = 0 → g4 0 = b ∧ nn b) (next : ∀ h', LI E ad z1 z2 z3 z4 h' A f n er M g3 g4 → N h') : fs_isc h z2 10 ∧ (w_MO_thrown E h z2 (fs_ki (fun x214 h213 => (if x214 = k then (if k = 0 then fs_ad h213 z4 (E.1.2 2) 0 (fun x217 => (if (Op.cmpValue (FP.dcmp x217 b) .l) = 0 then N h213 else fs_ad h213 z4 (E.1.2 2) 0 (fun x219 => fs_ad h213 z4 (E.1.2 2) 0 (fun x220 => (if (Op.cmpValue (FP.dcmp x219 x220) .l) = 0 then B h213 else (if (Op.cmpValue (FP.dcmp b b) .l) = 0 then B h213 else N h213)))))) else N h213) else B h213)) X)) := by
  refine ⟨a.is10, mc_thrown a fun h' a' => fs_ki_of ?_⟩
  rw [if_pos hk]
  by_cases z : k = 0
  · rw [if_pos z]
    refine fs_ad_of a'.2.2.2.1 (show vp_in (0 : Int32) 1 from nI_in (c := 0) (by decide) (by decide)) ?_
    have e : g4 (Int32.toNatClampNeg 0) = b := (hb z).1
    rw [e, if_pos (dc_self (hb z).2)]
    exact next h' a'
  · rw [if_neg z]
    exact next h' a'
theorem tlr {N B : fs_Hp → Prop} {J0 J1 : Int64 → fs_Hp → Prop} {X : String → fs_Hp → Prop} {k : Int32} {b : Bool} (a : LI E ad z1 z2 z3 z4 h A f n er M g3 g4) (hk : M.1 11 = k) (hb : k = 0 → g3 0 = (if b = true then 1 else 0)) (j0 : ∀ h, N h → J0 0 h) (j1 : ∀ h, N h → J1 1 h) (next : ∀ h', LI E ad z1 z2 z3 z4 h' A f n er M g3 g4 → N h') : fs_isc h z2 10 ∧ (w_MO_thrown E h z2 (fs_ki (fun x257 h256 => (if x257 = k then (if k = 0 then fs_al h256 z3 (E.1.2 1) 0 (fun x260 => (if bi b = 0 then J0 x260 h256 else J1 x260 h256)) else N h256) else B h256)) X)) := by
  refine ⟨a.is10, mc_thrown a fun h' a' => fs_ki_of ?_⟩
  rw [if_pos hk]
  by_cases z : k = 0
  · rw [if_pos z]
    refine fs_al_of a'.2.2.1 (show vp_in (0 : Int32) 1 from nI_in (c := 0) (by decide) (by decide)) ?_
    have e : g3 (Int32.toNatClampNeg 0) = (if b = true then 1 else 0) := hb z
    rw [e]
    cases b with
    | true =>
      rw [bi_1 rfl, if_neg (show ¬ (1 : Int32) = 0 by decide), if_pos rfl]
      exact j1 h' (next h' a')
    | false =>
      rw [bi_0 rfl, if_pos rfl, if_neg (by decide)]
      exact j0 h' (next h' a')
  · rw [if_neg z]
    exact next h' a'
end
