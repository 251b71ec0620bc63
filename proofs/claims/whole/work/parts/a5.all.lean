/-! Pure: both sides together, and the law's helpers. -/
theorem fs_ki_ex {K : Int32 → fs_Hp → Prop} {X : String → fs_Hp → Prop} {h : fs_Hp} {C : String} (hk : X C h) : fs_ki K X (.inr C) h := hk
theorem fs_kv_ex {K : fs_Hp → Prop} {X : String → fs_Hp → Prop} {h : fs_Hp} {C : String} (hk : X C h) : fs_kv K X (.inr C) h := hk
theorem fs_kd_ex {K : UInt64 → fs_Hp → Prop} {X : String → fs_Hp → Prop} {h : fs_Hp} {C : String} (hk : X C h) : fs_kd K X (.inr C) h := hk
theorem lg_self (x : Int64) : lg_cmp x x = 0 := (lg_cmp_eq x x).mpr rfl
theorem dc_self {d : UInt64} (h : nn d) : Op.cmpValue (FP.dcmp d d) .l = 0 := by
  have e : FP.dcmp d d = _ := FP.Core.dcmp_key h h
  rw [e]
  exact (cmpV_eq _ _ _).mpr rfl
/-- the places that are not the class's -/
def UU (z2 : Nat) (ad : Nat → Nat) (z3 z4 q : Nat) : Prop := q = z2 ∨ (∃ j, mo_ar j ≠ none ∧ q = ad j) ∨ q = z3 ∨ q = z4
def LI (E : fs_E) (ad : Nat → Nat) (z1 z2 z3 z4 : Nat) (h : fs_Hp) (A : Shh) (f : Nat → Int32) (n : Nat) (er : Int32) (M : mo_S) (g3 : Nat → Int64) (g4 : Nat → UInt64) : Prop := CI E (UU z2 ad z3 z4) h z1 A f n er ∧ mo_at E.1 h z2 ad M ∧ h z3 = some (.inl (E.1.2 1, 1, .inr (.inl g3))) ∧ h z4 = some (.inl (E.1.2 2, 1, .inr (.inr (.inr (.inl g4))))) ∧ ∀ j, mo_ar j ≠ none → z3 ≠ ad j ∧ z4 ≠ ad j
section
variable {E : fs_E} {ad : Nat → Nat} {z1 z2 z3 z4 n n' : Nat} {h h' : fs_Hp} {A A' : Shh} {f f' : Nat → Int32} {er er' : Int32} {M M' : mo_S} {g3 : Nat → Int64} {g4 : Nat → UInt64} {Post : fs_Ps}
theorem arr_ne {x : ClassId × vp_A} {o : Option va_E} (e : o = some (.inl x)) : o ≠ none ∧ ∀ fs, o ≠ some (.inr (5, fs)) := by
  rw [e]
  exact ⟨fun z => by cases z, fun fs z => by cases z⟩
theorem uu_ok (m : mo_at E.1 h z2 ad M) {x3 x4 : ClassId × vp_A} (e3 : h z3 = some (.inl x3)) (e4 : h z4 = some (.inl x4)) : ∀ q, UU z2 ad z3 z4 q → h q ≠ none ∧ ∀ fs, h q ≠ some (.inr (5, fs)) := by
  rintro q (rfl | ⟨j, hj, rfl⟩ | rfl | rfl)
  · rw [m.1]
    refine ⟨fun z => (by cases z), fun fs z => ?_⟩
    have : (10 : Nat) = 5 := congrArg (fun o : Option va_E => knd o - 10) z
    omega
  · cases e : mo_ar j with
    | none => exact absurd e hj
    | some y =>
      obtain ⟨t, k⟩ := y
      exact arr_ne (m.2.1 j t k e)
  · exact arr_ne e3
  · exact arr_ne e4
theorem LI.cls (a : LI E ad z1 z2 z3 z4 h A f n er M g3 g4) (c : CI E (UU z2 ad z3 z4) h' z1 A' f' n' er') (u : fU (UU z2 ad z3 z4) h h') : LI E ad z1 z2 z3 z4 h' A' f' n' er' M g3 g4 := by
  obtain ⟨_, m, e3, e4, d⟩ := a
  refine ⟨c, ⟨(u z2 (Or.inl rfl)).trans m.1, fun j t k hj => ?_, m.2.2⟩, (u z3 (Or.inr (Or.inr (Or.inl rfl)))).trans e3, (u z4 (Or.inr (Or.inr (Or.inr rfl)))).trans e4, d⟩
  exact (u (ad j) (Or.inr (Or.inl ⟨j, by rw [hj]; exact fun z => (by cases z), rfl⟩))).trans (m.2.1 j t k hj)
theorem LI.mod (a : LI E ad z1 z2 z3 z4 h A f n er M g3 g4) (m : mo_at E.1 h' z2 ad M') (fr : mo_fr z2 ad h h') : LI E ad z1 z2 z3 z4 h' A f n er M' g3 g4 := by
  obtain ⟨c, m0, e3, e4, d⟩ := a
  have n3 : z3 ≠ z2 := fun z => by rw [z, m0.1] at e3; cases e3
  have n4 : z4 ≠ z2 := fun z => by rw [z, m0.1] at e4; cases e4
  have k3 := (fr z3 n3 fun j hj => (d j hj).1).trans e3
  have k4 := (fr z4 n4 fun j hj => (d j hj).2).trans e4
  exact ⟨c.kept (fun q hq => fr q (fun z => hq (Or.inl z)) fun j hj z => hq (Or.inr (Or.inl ⟨j, hj, z⟩))) (uu_ok m k3 k4), m, k3, k4, d⟩
theorem LI.out3 (a : LI E ad z1 z2 z3 z4 h A f n er M g3 g4) (g : Nat → Int64) : LI E ad z1 z2 z3 z4 (fs_up h z3 (.inl (E.1.2 1, 1, .inr (.inl g)))) A f n er M g g4 := by
  obtain ⟨c, m0, e3, e4, d⟩ := a
  have n3 : z2 ≠ z3 := fun z => by rw [← z, m0.1] at e3; cases e3
  have n4 : z4 ≠ z3 := fun z => by rw [z, e3] at e4; cases e4
  have m1 : mo_at E.1 (fs_up h z3 (.inl (E.1.2 1, 1, .inr (.inl g)))) z2 ad M := ⟨(fs_up_ne n3).trans m0.1, fun j t k hj => (fs_up_ne (Ne.symm (d j (by rw [hj]; exact fun z => by cases z)).1)).trans (m0.2.1 j t k hj), m0.2.2⟩
  have k4 : fs_up h z3 (.inl (E.1.2 1, 1, .inr (.inl g))) z4 = _ := (fs_up_ne n4).trans e4
  exact ⟨c.kept (fun q hq => fs_up_ne fun z => hq (Or.inr (Or.inr (Or.inl z)))) (uu_ok m1 fs_up_self k4), m1, fs_up_self, k4, d⟩
theorem LI.out4 (a : LI E ad z1 z2 z3 z4 h A f n er M g3 g4) (g : Nat → UInt64) : LI E ad z1 z2 z3 z4 (fs_up h z4 (.inl (E.1.2 2, 1, .inr (.inr (.inr (.inl g)))))) A f n er M g3 g := by
  obtain ⟨c, m0, e3, e4, d⟩ := a
  have n3 : z2 ≠ z4 := fun z => by rw [← z, m0.1] at e4; cases e4
  have n4 : z3 ≠ z4 := fun z => by rw [z, e4] at e3; cases e3
  have m1 : mo_at E.1 (fs_up h z4 (.inl (E.1.2 2, 1, .inr (.inr (.inr (.inl g)))))) z2 ad M := ⟨(fs_up_ne n3).trans m0.1, fun j t k hj => (fs_up_ne (Ne.symm (d j (by rw [hj]; exact fun z => by cases z)).2)).trans (m0.2.1 j t k hj), m0.2.2⟩
  have k3 : fs_up h z4 (.inl (E.1.2 2, 1, .inr (.inr (.inr (.inl g))))) z3 = _ := (fs_up_ne n4).trans e3
  exact ⟨c.kept (fun q hq => fs_up_ne fun z => hq (Or.inr (Or.inr (Or.inr z)))) (uu_ok m1 k3 fs_up_self), m1, k3, fs_up_self, d⟩
theorem CI.isc {U : Nat → Prop} {x : Nat} (c : CI E U h x A f n er) : fs_isc h x 0 := by
  obtain ⟨ln, ch, ce, fil, fo, va, re, ga, od, sb, v, cap, t, x2, x3, st, bf, vf, ff, rf, oo, Fs, c⟩ := c
  exact fs_isc_of c.1.1
/-- a number goes out -/
theorem LI.wr3 (a : LI E ad z1 z2 z3 z4 h A f n er M g3 g4) {y : Int64} {K : fs_Hp → Prop} (hK : ∀ h' g, LI E ad z1 z2 z3 z4 h' A f n er M g g4 → g 0 = y → K h') : fs_sl h z3 (E.1.2 1) 0 y K := by
  refine fs_sl_of a.2.2.1 (show vp_in (0 : Int32) 1 from nI_in (c := 0) (by decide) (by decide)) ?_
  exact hK _ _ (a.out3 _) rfl
theorem LI.wr4 (a : LI E ad z1 z2 z3 z4 h A f n er M g3 g4) {y : UInt64} {K : fs_Hp → Prop} (hK : ∀ h' g, LI E ad z1 z2 z3 z4 h' A f n er M g3 g → g 0 = y → K h') : fs_sd h z4 (E.1.2 2) 0 y K := by
  refine fs_sd_of a.2.2.2.1 (show vp_in (0 : Int32) 1 from nI_in (c := 0) (by decide) (by decide)) ?_
  exact hK _ _ (a.out4 _) rfl
/-! what the helpers answer -/
theorem lk_type (a : LI E ad z1 z2 z3 z4 h A f n er M g3 g4) {y : Int32} (K1 : (y < 0 ∨ ¬ y ≤ 127) → Post (.inl (some (.int 1))) h) (K2 : ∀ k : Nat, k < 128 → y = nI k → n = 40 → Post (.inl (some (.int 2))) h) (K0 : ∀ k : Nat, k < 128 → y = nI k → n < 40 → ∀ h' g, LI E ad z1 z2 z3 z4 h' A (upd f n (nI k)) (n + 1) er M g g4 → g 0 = Int32.toInt64 (nI (n + 1)) → Post (.inl (some (.int 0))) h') : w_LW_type 1000 14000 E h z1 y z3 Post := by
  refine ⟨1000, 14000, Nat.le_refl _, Nat.le_refl _, a.1.isc, ?_⟩
  exact sh_type a.1 (by decide) (by decide) (fun e => fs_ki_ex (Or.inl ⟨rfl, K1 e⟩)) (fun k h1 h2 h3 => fs_ki_ex (Or.inr ⟨rfl, K2 k h1 h2 h3⟩)) (fun k h1 h2 h3 h' c u => fs_ki_of ((a.cls c u).wr3 fun h'' g b e => K0 k h1 h2 h3 h'' g b e))
theorem lk_enter (a : LI E ad z1 z2 z3 z4 h A f n er M g3 g4) {y1 y2 : Int32} (K1 : p_MO_out y1 y2 = 1 → Post (.inl (some (.int 1))) h) (K2 : ∀ C W : Nat, C < 8 → W < 10 → y1 = nI C → y2 = nI W → (ps_read (pa_n f n) n).1 = none → ∀ h', LI E ad z1 z2 z3 z4 h' A f 0 (nI (ps_read (pa_n f n) n).2) M g3 g4 → Post (.inl (some (.int 2))) h') (K0 : ∀ C W : Nat, C < 8 → W < 10 → y1 = nI C → y2 = nI W → ∀ L, (ps_read (pa_n f n) n).1 = some L → fok L → ∀ h' g, LI E ad z1 z2 z3 z4 h' (fun j => if j = W * 8 + C then some (.inr L) else A j) f 0 (-1) M g g4 → g 0 = Int32.toInt64 (nI (cnt (rck L))) → Post (.inl (some (.int 0))) h') : w_LW_enter 1000 14000 E h z1 y1 y2 z3 Post := by
  refine ⟨1000, 14000, Nat.le_refl _, Nat.le_refl _, a.1.isc, ?_⟩
  exact sh_enter a.1 (by decide) (by decide) (fun e => fs_ki_ex (Or.inl ⟨rfl, K1 e⟩)) (fun C W h1 h2 h3 h4 h5 h' c u => fs_ki_ex (Or.inr ⟨rfl, K2 C W h1 h2 h3 h4 h5 h' (a.cls c u)⟩)) (fun C W h1 h2 h3 h4 L h5 h6 h' c u => fs_ki_of ((a.cls c u).wr3 fun h'' g b e => K0 C W h1 h2 h3 h4 L h5 h6 h'' g b e))
theorem lk_put (a : LI E ad z1 z2 z3 z4 h A f n er M g3 g4) {y1 y2 : Int32} {d : UInt64} (hd : nn d) (K1 : p_MO_out y1 y2 = 1 → Post (.inl (some (.int 1))) h) (K2 : ∀ C W : Nat, C < 8 → W < 10 → y1 = nI C → y2 = nI W → ¬ nb d → Post (.inl (some (.int 2))) h) (K0 : ∀ C W : Nat, C < 8 → W < 10 → y1 = nI C → y2 = nI W → nb d → ∀ h', LI E ad z1 z2 z3 z4 h' (fun j => if j = W * 8 + C then some (.inl d) else A j) f n er M g3 g4 → Post (.inl (some (.int 0))) h') : w_LW_put 1000 14000 E h z1 y1 y2 d Post := by
  refine ⟨1000, 14000, Nat.le_refl _, Nat.le_refl _, a.1.isc, ?_⟩
  exact sh_put a.1 hd (by decide) (by decide) (fun e => fs_kv_ex (Or.inl ⟨rfl, K1 e⟩)) (fun C W h1 h2 h3 h4 h5 => fs_kv_ex (Or.inr ⟨rfl, K2 C W h1 h2 h3 h4 h5⟩)) (fun C W h1 h2 h3 h4 h5 h' c u => fs_kv_of (K0 C W h1 h2 h3 h4 h5 h' (a.cls c u)))
theorem lk_erase (a : LI E ad z1 z2 z3 z4 h A f n er M g3 g4) {y1 y2 : Int32} (K1 : p_MO_out y1 y2 = 1 → Post (.inl (some (.int 1))) h) (K2 : ∀ C W : Nat, C < 8 → W < 10 → y1 = nI C → y2 = nI W → A (W * 8 + C) = none → Post (.inl (some (.int 2))) h) (K0 : ∀ C W : Nat, C < 8 → W < 10 → y1 = nI C → y2 = nI W → A (W * 8 + C) ≠ none → ∀ h', LI E ad z1 z2 z3 z4 h' (fun j => if j = W * 8 + C then none else A j) f n er M g3 g4 → Post (.inl (some (.int 0))) h') : w_LW_erase 1000 14000 E h z1 y1 y2 Post := by
  refine ⟨1000, 14000, Nat.le_refl _, Nat.le_refl _, a.1.isc, ?_⟩
  exact sh_erase a.1 (by decide) (by decide) (fun e => fs_kv_ex (Or.inl ⟨rfl, K1 e⟩)) (fun C W h1 h2 h3 h4 h5 => fs_kv_ex (Or.inr ⟨rfl, K2 C W h1 h2 h3 h4 h5⟩)) (fun C W h1 h2 h3 h4 h5 h' c u => fs_kv_of (K0 C W h1 h2 h3 h4 h5 h' (a.cls c u)))
theorem lk_copy (a : LI E ad z1 z2 z3 z4 h A f n er M g3 g4) (hA : shok A) {y1 y2 y3 y4 : Int32} (K1 : (p_MO_out y1 y2 = 1 ∨ p_MO_out y3 y4 = 1) → Post (.inl (some (.int 1))) h) (K2 : ∀ C W C' W' : Nat, C < 8 → W < 10 → C' < 8 → W' < 10 → y1 = nI C → y2 = nI W → y3 = nI C' → y4 = nI W' → A (W * 8 + C) = none → Post (.inl (some (.int 2))) h) (K0 : ∀ C W C' W' : Nat, C < 8 → W < 10 → C' < 8 → W' < 10 → y1 = nI C → y2 = nI W → y3 = nI C' → y4 = nI W' → A (W * 8 + C) ≠ none → ∀ h' g, LI E ad z1 z2 z3 z4 h' (copS A (W * 8 + C) (W' * 8 + C') (y3 - y1) (y4 - y2)) f n er M g g4 → g 0 = Int32.toInt64 (nI (lsC (mpC (itM (y3 - y1) (y4 - y2)) (A (W * 8 + C)))) - nI (lsC (A (W * 8 + C)))) → Post (.inl (some (.int 0))) h') : w_LW_copy 1000 14000 E h z1 y1 y2 y3 y4 z3 Post := by
  refine ⟨1000, 14000, Nat.le_refl _, Nat.le_refl _, a.1.isc, ?_⟩
  exact sh_copy a.1 hA (by decide) (by decide) (fun e => fs_ki_ex (Or.inl ⟨rfl, K1 e⟩)) (fun C W C' W' h1 h2 h3 h4 h5 h6 h7 h8 h9 => fs_ki_ex (Or.inr ⟨rfl, K2 C W C' W' h1 h2 h3 h4 h5 h6 h7 h8 h9⟩)) (fun C W C' W' h1 h2 h3 h4 h5 h6 h7 h8 h9 h' c u => fs_ki_of ((a.cls c u).wr3 fun h'' g b e => K0 C W C' W' h1 h2 h3 h4 h5 h6 h7 h8 h9 h'' g b e))
theorem lk_insert (a : LI E ad z1 z2 z3 z4 h A f n er M g3 g4) {y : Int32} (K1 : p_MO_out 0 y = 1 → Post (.inl (some (.int 1))) h) (K0 : ∀ W : Nat, W < 10 → y = nI W → ∀ h' g, LI E ad z1 z2 z3 z4 h' (insS A W) f n er M g g4 → g 0 = Int32.toInt64 (nI (rowc A 9)) → Post (.inl (some (.int 0))) h') : w_LW_insert 1000 14000 E h z1 y z3 Post := by
  refine ⟨1000, 14000, Nat.le_refl _, Nat.le_refl _, a.1.isc, ?_⟩
  exact sh_insert a.1 (by decide) (by decide) (fun e => fs_ki_ex ⟨rfl, K1 e⟩) (fun W h1 h2 h' c u => fs_ki_of ((a.cls c u).wr3 fun h'' g b e => K0 W h1 h2 h'' g b e))
theorem lk_delete (a : LI E ad z1 z2 z3 z4 h A f n er M g3 g4) {y : Int32} (K1 : p_MO_out 0 y = 1 → Post (.inl (some (.int 1))) h) (K0 : ∀ W : Nat, W < 10 → y = nI W → ∀ h' g, LI E ad z1 z2 z3 z4 h' (delS A W) f n er M g g4 → g 0 = Int32.toInt64 (nI (rowc A W)) → Post (.inl (some (.int 0))) h') : w_LW_delete 1000 14000 E h z1 y z3 Post := by
  refine ⟨1000, 14000, Nat.le_refl _, Nat.le_refl _, a.1.isc, ?_⟩
  exact sh_delete a.1 (by decide) (by decide) (fun e => fs_ki_ex ⟨rfl, K1 e⟩) (fun W h1 h2 h' c u => fs_ki_of ((a.cls c u).wr3 fun h'' g b e => K0 W h1 h2 h'' g b e))
theorem lk_value (hE : fs_In E) (a : LI E ad z1 z2 z3 z4 h A f n er M g3 g4) (hA : shok A) {y1 y2 : Int32} (K1 : p_MO_out y1 y2 = 1 → Post (.inl (some (.int 1))) h) (K2 : ∀ C W : Nat, C < 8 → W < 10 → y1 = nI C → y2 = nI W → A (W * 8 + C) = none → Post (.inl (some (.int 2))) h) (K3 : ∀ C W : Nat, C < 8 → W < 10 → y1 = nI C → y2 = nI W → A (W * 8 + C) ≠ none → rea A (W * 8 + C) (W * 8 + C) = true → ∀ h', LI E ad z1 z2 z3 z4 h' A f n er M g3 g4 → Post (.inl (some (.int 3))) h') (K4 : ∀ C W : Nat, C < 8 → W < 10 → y1 = nI C → y2 = nI W → A (W * 8 + C) ≠ none → rea A (W * 8 + C) (W * 8 + C) = false → val A (W * 8 + C) = none → ∀ h', LI E ad z1 z2 z3 z4 h' A f n er M g3 g4 → Post (.inl (some (.int 4))) h') (K0 : ∀ C W : Nat, C < 8 → W < 10 → y1 = nI C → y2 = nI W → A (W * 8 + C) ≠ none → rea A (W * 8 + C) (W * 8 + C) = false → ∀ d, nb d → val A (W * 8 + C) = some d → ∀ h' g, LI E ad z1 z2 z3 z4 h' A f n er M g3 g → g 0 = d → Post (.inl (some (.int 0))) h') : w_LW_value 1000 14000 E h z1 y1 y2 z4 Post := by
  refine ⟨1000, 14000, Nat.le_refl _, Nat.le_refl _, a.1.isc, ?_⟩
  exact sh_value hE hA a.1 (by decide) (by decide) (fun e => fs_kd_ex (Or.inl ⟨rfl, K1 e⟩)) (fun C W h1 h2 h3 h4 h5 => fs_kd_ex (Or.inr (Or.inl ⟨rfl, K2 C W h1 h2 h3 h4 h5⟩))) (fun C W h1 h2 h3 h4 h5 h6 h' c u => fs_kd_ex (Or.inr (Or.inr (Or.inl ⟨rfl, K3 C W h1 h2 h3 h4 h5 h6 h' (a.cls c u)⟩)))) (fun C W h1 h2 h3 h4 h5 h6 h7 h' c u => fs_kd_ex (Or.inr (Or.inr (Or.inr ⟨rfl, K4 C W h1 h2 h3 h4 h5 h6 h7 h' (a.cls c u)⟩)))) (fun C W h1 h2 h3 h4 h5 h6 d h7 h8 h' c u => fs_kd_of ((a.cls c u).wr4 fun h'' g b e => K0 C W h1 h2 h3 h4 h5 h6 d h7 h8 h'' g b e))
theorem lk_kind (hE : fs_In E) (a : LI E ad z1 z2 z3 z4 h A f n er M g3 g4) (hA : shok A) {y1 y2 : Int32} (K1 : p_MO_out y1 y2 = 1 → Post (.inl (some (.int 1))) h) (K0 : ∀ C W : Nat, C < 8 → W < 10 → y1 = nI C → y2 = nI W → ∀ h' g, LI E ad z1 z2 z3 z4 h' A f n er M g g4 → g 0 = Int32.toInt64 (kdA A (W * 8 + C)) → Post (.inl (some (.int 0))) h') : w_LW_kind 1000 14000 E h z1 y1 y2 z3 Post := by
  refine ⟨1000, 14000, Nat.le_refl _, Nat.le_refl _, a.1.isc, ?_⟩
  exact sh_kind hE hA a.1 (by decide) (by decide) (fun e => fs_ki_ex ⟨rfl, K1 e⟩) (fun C W h1 h2 h3 h4 h' c u => fs_ki_of ((a.cls c u).wr3 fun h'' g b e => K0 C W h1 h2 h3 h4 h'' g b e))
theorem lk_text (a : LI E ad z1 z2 z3 z4 h A f n er M g3 g4) (hA : shok A) {y1 y2 y3 : Int32} (K1 : p_MO_out y1 y2 = 1 → Post (.inl (some (.int 1))) h) (K2 : ∀ C W : Nat, C < 8 → W < 10 → y1 = nI C → y2 = nI W → (∀ L, A (W * 8 + C) ≠ some (.inr L)) → Post (.inl (some (.int 2))) h) (K0 : ∀ C W : Nat, C < 8 → W < 10 → y1 = nI C → y2 = nI W → ∀ L, A (W * 8 + C) = some (.inr L) → ∀ h' g, LI E ad z1 z2 z3 z4 h' A f n er M g g4 → g 0 = Int32.toInt64 (txc (tex L) y3) → Post (.inl (some (.int 0))) h') : w_LW_text 1000 14000 E h z1 y1 y2 y3 z3 Post := by
  refine ⟨1000, 14000, Nat.le_refl _, Nat.le_refl _, a.1.isc, ?_⟩
  exact sh_text hA a.1 (by decide) (by decide) (fun e => fs_ki_ex (Or.inl ⟨rfl, K1 e⟩)) (fun C W h1 h2 h3 h4 h5 => fs_ki_ex (Or.inr ⟨rfl, K2 C W h1 h2 h3 h4 h5⟩)) (fun C W h1 h2 h3 h4 L h5 h' c u => fs_ki_of ((a.cls c u).wr3 fun h'' g b e => K0 C W h1 h2 h3 h4 L h5 h'' g b e))
theorem lk_reaches (hE : fs_In E) (a : LI E ad z1 z2 z3 z4 h A f n er M g3 g4) (hA : shok A) {y1 y2 y3 y4 : Int32} (K1 : (p_MO_out y1 y2 = 1 ∨ p_MO_out y3 y4 = 1) → Post (.inl (some (.int 1))) h) (K0 : ∀ C W C' W' : Nat, C < 8 → W < 10 → C' < 8 → W' < 10 → y1 = nI C → y2 = nI W → y3 = nI C' → y4 = nI W' → ∀ h' g, LI E ad z1 z2 z3 z4 h' A f n er M g g4 → g 0 = (if rea A (W * 8 + C) (W' * 8 + C') = true then 1 else 0) → Post (.inl (some (.int 0))) h') : w_LW_reaches 1000 14000 E h z1 y1 y2 y3 y4 z3 Post := by
  refine ⟨1000, 14000, Nat.le_refl _, Nat.le_refl _, a.1.isc, ?_⟩
  refine sh_reaches hE hA a.1 (by decide) (by decide) (fun e => fs_ki_ex ⟨rfl, K1 e⟩) (fun C W C' W' h1 h2 h3 h4 h5 h6 h7 h8 h' c u => fs_ki_of ?_)
  have K9 := K0 C W C' W' h1 h2 h3 h4 h5 h6 h7 h8
  cases e : rea A (W * 8 + C) (W' * 8 + C') with
  | true =>
    rw [bi_1 rfl, if_neg (show ¬ (1 : Int32) = 0 by decide)]
    exact (a.cls c u).wr3 fun h'' g b w => K9 h'' g b (by rw [e, if_pos rfl]; exact w)
  | false =>
    rw [bi_0 rfl, if_pos rfl]
    exact (a.cls c u).wr3 fun h'' g b w => K9 h'' g b (by rw [e, if_neg (by decide)]; exact w)
/-! the reference's calls -/
theorem mc_type {k : Nat} (q : M.1 9 = nI k) (q4 : k ≤ 40) {y : Int32} (a : LI E ad z1 z2 z3 z4 h A f n er M g3 g4) (K : ∀ h'', LI E ad z1 z2 z3 z4 h'' A f n er (p_MO_type M y).2 g3 g4 → Post (.inl (some (.int (p_MO_type M y).1))) h'') : w_MO_type E h z2 y Post := ⟨ad, M, a.2.1, ⟨by rw [q, nI_toInt (by omega)]; omega, by rw [q, nI_toInt (by omega)]; omega⟩, fun h'' m fr => K h'' (a.mod m fr)⟩
theorem mc_errorAt (a : LI E ad z1 z2 z3 z4 h A f n er M g3 g4) (K : ∀ h'', LI E ad z1 z2 z3 z4 h'' A f n er (p_MO_errorAt M).2 g3 g4 → Post (.inl (some (.int (p_MO_errorAt M).1))) h'') : w_MO_errorAt E h z2 Post := ⟨ad, M, a.2.1, fun h'' m fr => K h'' (a.mod m fr)⟩
theorem mc_put (a : LI E ad z1 z2 z3 z4 h A f n er M g3 g4) {y1 y2 : Int32} {d : UInt64} (K : ∀ h'', LI E ad z1 z2 z3 z4 h'' A f n er (p_MO_put M y1 y2 d) g3 g4 → Post (.inl none) h'') : w_MO_put E h z2 y1 y2 d Post := ⟨ad, M, a.2.1, fun h'' m fr => K h'' (a.mod m fr)⟩
theorem mc_erase (a : LI E ad z1 z2 z3 z4 h A f n er M g3 g4) {y1 y2 : Int32} (K : ∀ h'', LI E ad z1 z2 z3 z4 h'' A f n er (p_MO_erase M y1 y2) g3 g4 → Post (.inl none) h'') : w_MO_erase E h z2 y1 y2 Post := ⟨ad, M, a.2.1, fun h'' m fr => K h'' (a.mod m fr)⟩
theorem mc_copy (hz : mo_sz M) (a : LI E ad z1 z2 z3 z4 h A f n er M g3 g4) {y1 y2 y3 y4 : Int32} (K : ∀ h'', LI E ad z1 z2 z3 z4 h'' A f n er (p_MO_copy M y1 y2 y3 y4).2 g3 g4 → Post (.inl (some (.int (p_MO_copy M y1 y2 y3 y4).1))) h'') : w_MO_copy E h z2 y1 y2 y3 y4 Post := ⟨ad, M, a.2.1, hz, fun h'' m fr => K h'' (a.mod m fr)⟩
theorem mc_insert (hz : mo_sz M) (a : LI E ad z1 z2 z3 z4 h A f n er M g3 g4) {y : Int32} (K : ∀ h'', LI E ad z1 z2 z3 z4 h'' A f n er (p_MO_insert M y).2 g3 g4 → Post (.inl (some (.int (p_MO_insert M y).1))) h'') : w_MO_insert E h z2 y Post := ⟨ad, M, a.2.1, hz, fun h'' m fr => K h'' (a.mod m fr)⟩
theorem mc_delete (hz : mo_sz M) (a : LI E ad z1 z2 z3 z4 h A f n er M g3 g4) {y : Int32} (K : ∀ h'', LI E ad z1 z2 z3 z4 h'' A f n er (p_MO_delete M y).2 g3 g4 → Post (.inl (some (.int (p_MO_delete M y).1))) h'') : w_MO_delete E h z2 y Post := ⟨ad, M, a.2.1, hz, fun h'' m fr => K h'' (a.mod m fr)⟩
theorem mc_enter {y1 y2 : Int32} {r : Int32 × mo_S} (e : q_MO_enter M y1 y2 = some r) (a : LI E ad z1 z2 z3 z4 h A f n er M g3 g4) (K : ∀ h'', LI E ad z1 z2 z3 z4 h'' A f n er r.2 g3 g4 → Post (.inl (some (.int r.1))) h'') : w_MO_enter E h z2 y1 y2 Post := ⟨ad, M, r, a.2.1, e, fun h'' m fr => K h'' (a.mod m fr)⟩
theorem mc_value {y1 y2 : Int32} {r : UInt64 × mo_S} (e : q_MO_value M y1 y2 = some r) (a : LI E ad z1 z2 z3 z4 h A f n er M g3 g4) (K : ∀ h'', LI E ad z1 z2 z3 z4 h'' A f n er r.2 g3 g4 → Post (.inl (some (.double r.1))) h'') : w_MO_value E h z2 y1 y2 Post := ⟨ad, M, r, a.2.1, e, fun h'' m fr => K h'' (a.mod m fr)⟩
theorem mc_kind {y1 y2 : Int32} {r : Int32 × mo_S} (e : q_MO_kind M y1 y2 = some r) (a : LI E ad z1 z2 z3 z4 h A f n er M g3 g4) (K : ∀ h'', LI E ad z1 z2 z3 z4 h'' A f n er r.2 g3 g4 → Post (.inl (some (.int r.1))) h'') : w_MO_kind E h z2 y1 y2 Post := ⟨ad, M, r, a.2.1, e, fun h'' m fr => K h'' (a.mod m fr)⟩
theorem mc_text {y1 y2 y3 : Int32} {r : Int32 × mo_S} (e : q_MO_text M y1 y2 y3 = some r) (a : LI E ad z1 z2 z3 z4 h A f n er M g3 g4) (K : ∀ h'', LI E ad z1 z2 z3 z4 h'' A f n er r.2 g3 g4 → Post (.inl (some (.int r.1))) h'') : w_MO_text E h z2 y1 y2 y3 Post := ⟨ad, M, r, a.2.1, e, fun h'' m fr => K h'' (a.mod m fr)⟩
theorem mc_reaches {y1 y2 y3 y4 : Int32} {r : Int32 × mo_S} (e : q_MO_reaches M y1 y2 y3 y4 = some r) (a : LI E ad z1 z2 z3 z4 h A f n er M g3 g4) (K : ∀ h'', LI E ad z1 z2 z3 z4 h'' A f n er r.2 g3 g4 → Post (.inl (some (.int r.1))) h'') : w_MO_reaches E h z2 y1 y2 y3 y4 Post := ⟨ad, M, r, a.2.1, e, fun h'' m fr => K h'' (a.mod m fr)⟩
theorem mc_count {y : Int32} {r : Int32 × mo_S} (e : q_MO_count M y = some r) (a : LI E ad z1 z2 z3 z4 h A f n er M g3 g4) (K : ∀ h'', LI E ad z1 z2 z3 z4 h'' A f n er r.2 g3 g4 → Post (.inl (some (.int r.1))) h'') : w_MO_count E h z2 y Post := ⟨ad, M, r, a.2.1, e, fun h'' m fr => K h'' (a.mod m fr)⟩
theorem LI.is10 (a : LI E ad z1 z2 z3 z4 h A f n er M g3 g4) : fs_isc h z2 10 := fs_isc_of a.2.1.1
theorem mc_thrown (a : LI E ad z1 z2 z3 z4 h A f n er M g3 g4) (K : ∀ h'', LI E ad z1 z2 z3 z4 h'' A f n er M g3 g4 → Post (.inl (some (.int (M.1 11)))) h'') : w_MO_thrown E h z2 Post := ⟨ad, M, a.2.1, fun h'' m fr => K h'' (a.mod m fr)⟩
/-! the law's comparisons -/
theorem tl3 {N B : fs_Hp → Prop} {X : String → fs_Hp → Prop} {k b : Int32} (a : LI E ad z1 z2 z3 z4 h A f n er M g3 g4) (hk : M.1 11 = k) (hb : k = 0 → g3 0 = Int32.toInt64 b) (next : ∀ h', LI E ad z1 z2 z3 z4 h' A f n er M g3 g4 → N h') : fs_isc h z2 10 ∧ (w_MO_thrown E h z2 (fs_ki (fun x125 h124 => (if x125 = k then (if k = 0 then fs_al h124 z3 (E.1.2 1) 0 (fun x128 => (if (lg_cmp x128 (Int32.toInt64 b)) = 0 then N h124 else B h124)) else N h124) else B h124)) X)) := by
  refine ⟨a.is10, mc_thrown a fun h' a' => fs_ki_of ?_⟩
  rw [if_pos hk]
  by_cases z : k = 0
  · rw [if_pos z]
    refine fs_al_of a'.2.2.1 (show vp_in (0 : Int32) 1 from nI_in (c := 0) (by decide) (by decide)) ?_
    have e : g3 (Int32.toNatClampNeg 0) = Int32.toInt64 b := hb z
    rw [e, if_pos (lg_self _)]
    exact next h' a'
  · rw [if_neg z]
    exact next h' a'
theorem tl0 {N B : fs_Hp → Prop} {X : String → fs_Hp → Prop} {k : Int32} (a : LI E ad z1 z2 z3 z4 h A f n er M g3 g4) (hk : M.1 11 = k) (next : ∀ h', LI E ad z1 z2 z3 z4 h' A f n er M g3 g4 → N h') : fs_isc h z2 10 ∧ (w_MO_thrown E h z2 (fs_ki (fun x125 h124 => (if x125 = k then N h124 else B h124)) X)) := by
  refine ⟨a.is10, mc_thrown a fun h' a' => fs_ki_of ?_⟩
  rw [if_pos hk]
  exact next h' a'
theorem tl4 {N B : fs_Hp → Prop} {X : String → fs_Hp → Prop} {k : Int32} {b : UInt64} (a : LI E ad z1 z2 z3 z4 h A f n er M g3 g4) (hk : M.1 11 = k) (hb : k = 0 → g4 0 = b ∧ nn b) (next : ∀ h', LI E ad z1 z2 z3 z4 h' A f n er M g3 g4 → N h') : fs_isc h z2 10 ∧ (w_MO_thrown E h z2 (fs_ki (fun x214 h213 => (if x214 = k then (if k = 0 then fs_ad h213 z4 (E.1.2 2) 0 (fun x217 => (if (Op.cmpValue (FP.dcmp x217 b) .l) = 0 then N h213 else fs_ad h213 z4 (E.1.2 2) 0 (fun x219 => fs_ad h213 z4 (E.1.2 2) 0 (fun x220 => (if (Op.cmpValue (FP.dcmp x219 x220) .l) = 0 then B h213 else (if (Op.cmpValue (FP.dcmp b b) .l) = 0 then B h213 else N h213)))))) else N h213) else B h213)) X)) := by
  refine ⟨a.is10, mc_thrown a fun h' a' => fs_ki_of ?_⟩
  rw [if_pos hk]
  by_cases z : k = 0
  · rw [if_pos z]
    refine fs_ad_of a'.2.2.2.1 (show vp_in (0 : Int32) 1 from nI_in (c := 0) (by decide) (by decide)) ?_
    have e : g4 (Int32.toNatClampNeg 0) = b := (hb z).1
    rw [e, if_pos (dc_self (hb z).2)]
    exact next h' a'
  · rw [if_neg z]
    exact next h' a'
theorem tlr {N B : fs_Hp → Prop} {J0 J1 : Int64 → fs_Hp → Prop} {X : String → fs_Hp → Prop} {k : Int32} {b : Bool} (a : LI E ad z1 z2 z3 z4 h A f n er M g3 g4) (hk : M.1 11 = k) (hb : k = 0 → g3 0 = (if b = true then 1 else 0)) (j0 : ∀ h, N h → J0 0 h) (j1 : ∀ h, N h → J1 1 h) (next : ∀ h', LI E ad z1 z2 z3 z4 h' A f n er M g3 g4 → N h') : fs_isc h z2 10 ∧ (w_MO_thrown E h z2 (fs_ki (fun x257 h256 => (if x257 = k then (if k = 0 then fs_al h256 z3 (E.1.2 1) 0 (fun x260 => (if bi b = 0 then J0 x260 h256 else J1 x260 h256)) else N h256) else B h256)) X)) := by
  refine ⟨a.is10, mc_thrown a fun h' a' => fs_ki_of ?_⟩
  rw [if_pos hk]
  by_cases z : k = 0
  · rw [if_pos z]
    refine fs_al_of a'.2.2.1 (show vp_in (0 : Int32) 1 from nI_in (c := 0) (by decide) (by decide)) ?_
    have e : g3 (Int32.toNatClampNeg 0) = (if b = true then 1 else 0) := hb z
    rw [e]
    cases b with
    | true =>
      rw [bi_1 rfl, if_neg (show ¬ (1 : Int32) = 0 by decide), if_pos rfl]
      exact j1 h' (next h' a')
    | false =>
      rw [bi_0 rfl, if_pos rfl, if_neg (by decide)]
      exact j0 h' (next h' a')
  · rw [if_neg z]
    exact next h' a'
end
/-! Pure: the law's loop. -/
theorem nb_any (w : Int32) : nb (FP.i2d w) := by
  unfold nb
  have := FP.Core.i2d_mag w
  show (FP.Core.i2d w).toNat % 2 ^ 63 ≤ _
  omega
theorem nb_8th : nb 4593671619917905920 := by
  unfold nb
  decide
theorem shok_copS {A : Shh} (hA : shok A) {k : Nat} (hk : k < 80) (k' : Nat) (dx dy : Int32) : shok (copS A k k' dx dy) := by
  have hm := shok_mp hA (g := itM dx dy) (fun L hL => fok_M hL) (fun L hL => txk_sh _ _ hL) k hk
  intro j hj
  unfold copS
  try dsimp only
  by_cases z : j = k'
  · rw [if_pos z]
    exact hm
  · rw [if_neg z]
    exact hA j hj
theorem lw_end {L z : Nat} (hL : L ≤ 2560) (hz : z ≤ 2600) : ((Int32.ofNat L) - 5 < nI z) ↔ L < z + 5 := by
  have e : ((Int32.ofNat L) - 5 : Int32).toInt = (L : Int) - 5 := by
    by_cases h5 : 5 ≤ L
    · have : ((Int32.ofNat L) - 5 : Int32) = nI (L - 5) := nI_sub (b := 5) h5
      rw [this, nI_toInt (by omega)]
      omega
    · have : ((Int32.ofNat L) - 5 : Int32).toInt = (L : Int) - (5 : Nat) := nI_neg (a := L) (b := 5) (by omega) (by decide)
      rw [this]
      omega
  rw [Int32.lt_iff_toInt_lt, e, nI_toInt (by omega)]
  omega
section
variable {E : fs_E} {ad : Nat → Nat} {z1 z2 z3 z4 : Nat} {K : Nat → Nat → fs_Hp → Prop} {Post : fs_Ps} {L : Nat} {xs : Nat → Int32}
/-- what the loop goes on with -/
def LN (E : fs_E) (ad : Nat → Nat) (z1 z2 z3 z4 : Nat) (N : fs_Hp → Prop) : Prop := ∀ (h' : fs_Hp) (A' : Shh) (f' : Nat → Int32) (n' : Nat) (er' : Int32) (M' : mo_S) (g3' : Nat → Int64) (g4' : Nat → UInt64), shok A' → MoQ M' A' f' n' er' → LI E ad z1 z2 z3 z4 h' A' f' n' er' M' g3' g4' → N h'
theorem ne_k {k : Int32} {P : Prop} (h : ¬ k = 0) : k = 0 → P := fun z => absurd z h
set_option maxHeartbeats 4000000 in
theorem lw_step (hE : fs_In E) {z m : Nat} {bc bs : Nat} (hz : z + 5 ≤ L) (hL : L ≤ 2560) (hbc : 1000 ≤ bc) (hbs : 14000 ≤ bs) {h : fs_Hp} {A : Shh} {f : Nat → Int32} {n : Nat} {er : Int32} {M : mo_S} {g3 : Nat → Int64} {g4 : Nat → UInt64} (hA : shok A) (q : MoQ M A f n er) (a : LI E ad z1 z2 z3 z4 h A f n er M g3 g4) (next1 : LN E ad z1 z2 z3 z4 (fun h' => (w_LW_law_L28 L xs E K Post m) z1 z2 z3 z4 (nI z + 5) (bc - 1000) (bs - 14000) h')) (next2 : LN E ad z1 z2 z3 z4 (fun h' => (w_LW_law_L28 L xs E K Post m) z1 z2 z3 z4 (nI z + 5) bc bs h')) : w_LW_law_L28 L xs E K Post (m + 1) z1 z2 z3 z4 (nI z) bc bs h := by
  have q9 := q.2.2.2.2.2.2.1
  have q40 := q.2.2.2.2.2.2.2.1
  have qsz := q.2.2.1
  have v0 : vp_in (nI z) L := nI_in (by omega) (by omega)
  have v1 : vp_in (nI z + 1) L := by rw [nI_1]; exact nI_in (by omega) (by omega)
  have v2 : vp_in (nI z + 2) L := by rw [show (nI z + 2 : Int32) = nI (z + 2) from nI_add z 2]; exact nI_in (by omega) (by omega)
  have v3 : vp_in (nI z + 3) L := by rw [show (nI z + 3 : Int32) = nI (z + 3) from nI_add z 3]; exact nI_in (by omega) (by omega)
  have v4 : vp_in (nI z + 4) L := by rw [show (nI z + 4 : Int32) = nI (z + 4) from nI_add z 4]; exact nI_in (by omega) (by omega)
  have n10 : ¬ (1 : Int32) = 0 := by decide
  have n20 : ¬ (2 : Int32) = 0 := by decide
  have n30 : ¬ (3 : Int32) = 0 := by decide
  have n40 : ¬ (4 : Int32) = 0 := by decide
  rw [w_LW_law_L28]
  try dsimp only
  rw [if_neg (fun w => by have := (lw_end hL (by omega)).mp w; omega)]
  refine ⟨v0, ?_⟩
  by_cases o0 : ((xs (Int32.toNatClampNeg (nI z))) &&& (15 : Int32)) = 0
  · rw [if_pos o0]
    generalize xs (Int32.toNatClampNeg (nI z + 1)) = y1
    refine ⟨v1, 1000, 14000, hbc, hbs, lk_type a (fun hy => ?_) (fun k h1 h2 h3 => ?_) (fun k h1 h2 h3 h' g b e => ?_)⟩
    · obtain ⟨r1, r2⟩ := mq_type1 q hy
      exact fs_ki_of ⟨v1, a.is10, mc_type q9 q40 a fun _ a2 => fs_ki_of (tl3 a2 r2 (ne_k n10) fun h3 a3 => next1 h3 _ _ _ _ _ _ _ hA r1 a3)⟩
    · subst h2
      obtain ⟨r1, r2⟩ := mq_type2 q h1 h3
      exact fs_ki_of ⟨v1, a.is10, mc_type q9 q40 a fun _ a2 => fs_ki_of (tl3 a2 r2 (ne_k n20) fun h3 a3 => next1 h3 _ _ _ _ _ _ _ hA r1 a3)⟩
    · subst h2
      obtain ⟨r1, r2, r3⟩ := mq_type0 q h1 h3
      exact fs_ki_of ⟨v1, b.is10, mc_type q9 q40 b fun _ a2 => fs_ki_of (tl3 a2 r2 (fun _ => by rw [r3]; exact e) fun h3 a3 => next1 h3 _ _ _ _ _ _ _ hA r1 a3)⟩
  rw [if_neg o0]
  by_cases o1 : ((xs (Int32.toNatClampNeg (nI z))) &&& (15 : Int32)) = 1
  · rw [if_pos o1]
    generalize xs (Int32.toNatClampNeg (nI z + 1)) = y1
    generalize xs (Int32.toNatClampNeg (nI z + 2)) = y2
    refine ⟨v1, v2, 1000, 14000, hbc, hbs, lk_enter a (fun e => ?_) (fun C W hC hW e1 e2 e3 h1 b => ?_) (fun C W hC hW e1 e2 Lf e3 e4 h1 g b eg => ?_)⟩
    · obtain ⟨r, r1, r2, r3⟩ := mq_enter1 q e
      exact fs_ki_of ⟨v1, v2, a.is10, mc_enter r1 a fun _ a2 => fs_ki_of (tl3 a2 r3 (ne_k n10) fun h3 a3 => next1 h3 _ _ _ _ _ _ _ hA r2 a3)⟩
    · subst e1
      subst e2
      obtain ⟨r, r1, r2, r3⟩ := mq_enter2 q hC hW e3
      exact fs_ki_of ⟨v1, v2, b.is10, mc_enter r1 b fun _ a2 => fs_ki_of (tl3 a2 r3 (ne_k n20) fun h3 a3 => next1 h3 _ _ _ _ _ _ _ hA r2 a3)⟩
    · subst e1
      subst e2
      obtain ⟨hs', r, r1, r2, r3, r4⟩ := mq_enter0 q hA hC hW e3 e4
      exact fs_ki_of ⟨v1, v2, b.is10, mc_enter r1 b fun _ a2 => fs_ki_of (tl3 a2 r3 (fun _ => by rw [r4]; exact eg) fun h3 a3 => next1 h3 _ _ _ _ _ _ _ hs' r2 a3)⟩
  rw [if_neg o1]
  by_cases o2 : ((xs (Int32.toNatClampNeg (nI z))) &&& (15 : Int32)) = 2
  · rw [if_pos o2]
    refine ⟨a.1.isc, sh_errorAt a.1 (fs_ki_of ⟨a.is10, mc_errorAt a fun h2 a2 => fs_ki_of ?_⟩)⟩
    rw [if_pos (show er = (p_MO_errorAt M).1 from ((mo_f_ne M 0 (by decide)).trans q.2.2.2.2.1).symm)]
    exact next2 h2 _ _ _ _ _ _ _ hA (q.f11 0) a2
  rw [if_neg o2]
  by_cases o3 : ((xs (Int32.toNatClampNeg (nI z))) &&& (15 : Int32)) = 3
  · rw [if_pos o3]
    generalize xs (Int32.toNatClampNeg (nI z + 1)) = y1
    generalize xs (Int32.toNatClampNeg (nI z + 2)) = y2
    have hd : nn (FP.dmul (FP.i2d (xs (Int32.toNatClampNeg (nI z + 3)))) 4593671619917905920) := nn_mul (nb_any _) nb_8th
    generalize FP.dmul (FP.i2d (xs (Int32.toNatClampNeg (nI z + 3)))) 4593671619917905920 = d at hd ⊢
    have hdn := nn_n64 hd
    refine ⟨v1, v2, v3, hdn, 1000, 14000, hbc, hbs, lk_put a hd (fun e => ?_) (fun C W hC hW e1 e2 e3 => ?_) (fun C W hC hW e1 e2 e3 h1 b => ?_)⟩
    · obtain ⟨r1, r2⟩ := mq_put1 (d := d) q e
      exact fs_ki_of ⟨v1, v2, v3, hdn, a.is10, mc_put a fun _ a2 => fs_kv_of (tl0 a2 r2 fun h3 a3 => next1 h3 _ _ _ _ _ _ _ hA r1 a3)⟩
    · subst e1
      subst e2
      obtain ⟨r1, r2⟩ := mq_put2 q hC hW hd e3
      exact fs_ki_of ⟨v1, v2, v3, hdn, a.is10, mc_put a fun _ a2 => fs_kv_of (tl0 a2 r2 fun h3 a3 => next1 h3 _ _ _ _ _ _ _ hA r1 a3)⟩
    · subst e1
      subst e2
      obtain ⟨r1, r2⟩ := mq_put0 q hC hW e3
      have hs' := shok_num hA (x := some (.inl d)) (fun L w => by cases w) (fun d' w => by cases w; exact e3) (W * 8 + C)
      exact fs_ki_of ⟨v1, v2, v3, hdn, b.is10, mc_put b fun _ a2 => fs_kv_of (tl0 a2 r2 fun h3 a3 => next1 h3 _ _ _ _ _ _ _ hs' r1 a3)⟩
  rw [if_neg o3]
  by_cases o4 : ((xs (Int32.toNatClampNeg (nI z))) &&& (15 : Int32)) = 4
  · rw [if_pos o4]
    generalize xs (Int32.toNatClampNeg (nI z + 1)) = y1
    generalize xs (Int32.toNatClampNeg (nI z + 2)) = y2
    refine ⟨v1, v2, 1000, 14000, hbc, hbs, lk_erase a (fun e => ?_) (fun C W hC hW e1 e2 e3 => ?_) (fun C W hC hW e1 e2 e3 h1 b => ?_)⟩
    · obtain ⟨r1, r2⟩ := mq_erase1 q e
      exact fs_ki_of ⟨v1, v2, a.is10, mc_erase a fun _ a2 => fs_kv_of (tl0 a2 r2 fun h3 a3 => next1 h3 _ _ _ _ _ _ _ hA r1 a3)⟩
    · subst e1
      subst e2
      obtain ⟨r1, r2⟩ := mq_erase2 q hC hW e3
      exact fs_ki_of ⟨v1, v2, a.is10, mc_erase a fun _ a2 => fs_kv_of (tl0 a2 r2 fun h3 a3 => next1 h3 _ _ _ _ _ _ _ hA r1 a3)⟩
    · subst e1
      subst e2
      obtain ⟨r1, r2⟩ := mq_erase0 q hC hW e3
      have hs' := shok_num hA (x := none) (fun L w => by cases w) (fun d' w => by cases w) (W * 8 + C)
      exact fs_ki_of ⟨v1, v2, b.is10, mc_erase b fun _ a2 => fs_kv_of (tl0 a2 r2 fun h3 a3 => next1 h3 _ _ _ _ _ _ _ hs' r1 a3)⟩
  rw [if_neg o4]
  by_cases o5 : ((xs (Int32.toNatClampNeg (nI z))) &&& (15 : Int32)) = 5
  · rw [if_pos o5]
    generalize xs (Int32.toNatClampNeg (nI z + 1)) = y1
    generalize xs (Int32.toNatClampNeg (nI z + 2)) = y2
    generalize xs (Int32.toNatClampNeg (nI z + 3)) = y3
    generalize xs (Int32.toNatClampNeg (nI z + 4)) = y4
    refine ⟨v1, v2, v3, v4, 1000, 14000, hbc, hbs, lk_copy a hA (fun e => ?_) (fun C W C' W' hC hW hC' hW' e1 e2 e3 e4 e5 => ?_) (fun C W C' W' hC hW hC' hW' e1 e2 e3 e4 e5 h1 g b eg => ?_)⟩
    · obtain ⟨r1, r2⟩ := mq_copy1 q e
      exact fs_ki_of ⟨v1, v2, v3, v4, a.is10, mc_copy qsz a fun _ a2 => fs_ki_of (tl3 a2 r2 (ne_k n10) fun h3 a3 => next1 h3 _ _ _ _ _ _ _ hA r1 a3)⟩
    · subst e1
      subst e2
      subst e3
      subst e4
      obtain ⟨r1, r2⟩ := mq_copy2 q hC hW hC' hW' e5
      exact fs_ki_of ⟨v1, v2, v3, v4, a.is10, mc_copy qsz a fun _ a2 => fs_ki_of (tl3 a2 r2 (ne_k n20) fun h3 a3 => next1 h3 _ _ _ _ _ _ _ hA r1 a3)⟩
    · subst e1
      subst e2
      subst e3
      subst e4
      obtain ⟨r1, r2, r3, r4, r5⟩ := mo_copy hC hW hC' hW' hA q.1 e5
      have hs' := shok_copS hA (show W * 8 + C < 80 by omega) (W' * 8 + C') (nI C' - nI C) (nI W' - nI W)
      exact fs_ki_of ⟨v1, v2, v3, v4, b.is10, mc_copy qsz b fun _ a2 => fs_ki_of (tl3 a2 r4 (fun _ => by rw [r1]; exact eg) fun h3 a3 => next1 h3 _ _ _ _ _ _ _ hs' (q.cg r3 r2 r5) a3)⟩
  rw [if_neg o5]
  by_cases o6 : ((xs (Int32.toNatClampNeg (nI z))) &&& (15 : Int32)) = 6
  · rw [if_pos o6]
    generalize xs (Int32.toNatClampNeg (nI z + 1)) = y1
    refine ⟨v1, 1000, 14000, hbc, hbs, lk_insert a (fun e => ?_) (fun W hW e1 h1 g b eg => ?_)⟩
    · obtain ⟨r1, r2⟩ := mq_insert1 q e
      exact fs_ki_of ⟨v1, a.is10, mc_insert qsz a fun _ a2 => fs_ki_of (tl3 a2 r2 (ne_k n10) fun h3 a3 => next1 h3 _ _ _ _ _ _ _ hA r1 a3)⟩
    · subst e1
      obtain ⟨r1, r2, r3, r4, r5⟩ := mo_insert hW hA q.1
      exact fs_ki_of ⟨v1, b.is10, mc_insert qsz b fun _ a2 => fs_ki_of (tl3 a2 r4 (fun _ => by rw [r1]; exact eg) fun h3 a3 => next1 h3 _ _ _ _ _ _ _ (shok_insS hA W) (q.cg r3 r2 r5) a3)⟩
  rw [if_neg o6]
  by_cases o7 : ((xs (Int32.toNatClampNeg (nI z))) &&& (15 : Int32)) = 7
  · rw [if_pos o7]
    generalize xs (Int32.toNatClampNeg (nI z + 1)) = y1
    refine ⟨v1, 1000, 14000, hbc, hbs, lk_delete a (fun e => ?_) (fun W hW e1 h1 g b eg => ?_)⟩
    · obtain ⟨r1, r2⟩ := mq_delete1 q e
      exact fs_ki_of ⟨v1, a.is10, mc_delete qsz a fun _ a2 => fs_ki_of (tl3 a2 r2 (ne_k n10) fun h3 a3 => next1 h3 _ _ _ _ _ _ _ hA r1 a3)⟩
    · subst e1
      obtain ⟨r1, r2, r3, r4, r5⟩ := mo_delete hW hA q.1
      exact fs_ki_of ⟨v1, b.is10, mc_delete qsz b fun _ a2 => fs_ki_of (tl3 a2 r4 (fun _ => by rw [r1]; exact eg) fun h3 a3 => next1 h3 _ _ _ _ _ _ _ (shok_delS hA W) (q.cg r3 r2 r5) a3)⟩
  rw [if_neg o7]
  by_cases o8 : ((xs (Int32.toNatClampNeg (nI z))) &&& (15 : Int32)) = 8
  · rw [if_pos o8]
    generalize xs (Int32.toNatClampNeg (nI z + 1)) = y1
    generalize xs (Int32.toNatClampNeg (nI z + 2)) = y2
    refine ⟨v1, v2, 1000, 14000, hbc, hbs, lk_value hE a hA (fun e => ?_) (fun C W hC hW e1 e2 e3 => ?_) (fun C W hC hW e1 e2 e3 e4 h1 b => ?_) (fun C W hC hW e1 e2 e3 e4 e5 h1 b => ?_) (fun C W hC hW e1 e2 e3 e4 d e5 e6 h1 g b eg => ?_)⟩
    · obtain ⟨r, r1, r2, r3⟩ := mq_value1 q e
      exact fs_ki_of ⟨v1, v2, a.is10, mc_value r1 a fun _ a2 => fs_kd_of (tl4 a2 r3 (ne_k n10) fun h3 a3 => next1 h3 _ _ _ _ _ _ _ hA r2 a3)⟩
    · subst e1
      subst e2
      obtain ⟨r, r1, r2, r3⟩ := mq_value2 q hC hW e3
      exact fs_ki_of ⟨v1, v2, a.is10, mc_value r1 a fun _ a2 => fs_kd_of (tl4 a2 r3 (ne_k n20) fun h3 a3 => next1 h3 _ _ _ _ _ _ _ hA r2 a3)⟩
    · subst e1
      subst e2
      obtain ⟨r, r1, r2, r3, r4, r5⟩ := mq_value q hA hC hW e3
      exact fs_ki_of ⟨v1, v2, b.is10, mc_value r1 b fun _ a2 => fs_kd_of (tl4 a2 (r3 e4) (ne_k n30) fun h3 a3 => next1 h3 _ _ _ _ _ _ _ hA r2 a3)⟩
    · subst e1
      subst e2
      obtain ⟨r, r1, r2, r3, r4, r5⟩ := mq_value q hA hC hW e3
      exact fs_ki_of ⟨v1, v2, b.is10, mc_value r1 b fun _ a2 => fs_kd_of (tl4 a2 (r4 e4 e5) (ne_k n40) fun h3 a3 => next1 h3 _ _ _ _ _ _ _ hA r2 a3)⟩
    · subst e1
      subst e2
      obtain ⟨r, r1, r2, r3, r4, r5⟩ := mq_value q hA hC hW e3
      obtain ⟨s1, s2⟩ := r5 e4 d e6
      exact fs_ki_of ⟨v1, v2, b.is10, mc_value r1 b fun _ a2 => fs_kd_of (tl4 a2 s1 (fun _ => ⟨by rw [s2]; exact eg, by rw [s2]; exact e5.nn⟩) fun h3 a3 => next1 h3 _ _ _ _ _ _ _ hA r2 a3)⟩
  rw [if_neg o8]
  by_cases o9 : ((xs (Int32.toNatClampNeg (nI z))) &&& (15 : Int32)) = 9
  · rw [if_pos o9]
    generalize xs (Int32.toNatClampNeg (nI z + 1)) = y1
    generalize xs (Int32.toNatClampNeg (nI z + 2)) = y2
    refine ⟨v1, v2, 1000, 14000, hbc, hbs, lk_kind hE a hA (fun e => ?_) (fun C W hC hW e1 e2 h1 g b eg => ?_)⟩
    · obtain ⟨r, r1, r2, r3⟩ := mq_kind1 q e
      exact fs_ki_of ⟨v1, v2, a.is10, mc_kind r1 a fun _ a2 => fs_ki_of (tl3 a2 r3 (ne_k n10) fun h3 a3 => next1 h3 _ _ _ _ _ _ _ hA r2 a3)⟩
    · subst e1
      subst e2
      obtain ⟨r, r1, r2, r3, r4⟩ := mq_kind0 q hA hC hW
      exact fs_ki_of ⟨v1, v2, b.is10, mc_kind r1 b fun _ a2 => fs_ki_of (tl3 a2 r3 (fun _ => by rw [r4]; exact eg) fun h3 a3 => next1 h3 _ _ _ _ _ _ _ hA r2 a3)⟩
  rw [if_neg o9]
  by_cases o10 : ((xs (Int32.toNatClampNeg (nI z))) &&& (15 : Int32)) = 10
  · rw [if_pos o10]
    generalize xs (Int32.toNatClampNeg (nI z + 1)) = y1
    generalize xs (Int32.toNatClampNeg (nI z + 2)) = y2
    generalize xs (Int32.toNatClampNeg (nI z + 3)) = y3
    refine ⟨v1, v2, v3, 1000, 14000, hbc, hbs, lk_text a hA (fun e => ?_) (fun C W hC hW e1 e2 e3 => ?_) (fun C W hC hW e1 e2 Lf e3 h1 g b eg => ?_)⟩
    · obtain ⟨r, r1, r2, r3⟩ := mq_text1 (y3 := y3) q e
      exact fs_ki_of ⟨v1, v2, v3, a.is10, mc_text r1 a fun _ a2 => fs_ki_of (tl3 a2 r3 (ne_k n10) fun h3 a3 => next1 h3 _ _ _ _ _ _ _ hA r2 a3)⟩
    · subst e1
      subst e2
      obtain ⟨r, r1, r2, r3⟩ := mq_text2 (y3 := y3) q hC hW e3
      exact fs_ki_of ⟨v1, v2, v3, a.is10, mc_text r1 a fun _ a2 => fs_ki_of (tl3 a2 r3 (ne_k n20) fun h3 a3 => next1 h3 _ _ _ _ _ _ _ hA r2 a3)⟩
    · subst e1
      subst e2
      obtain ⟨r, r1, r2, r3, r4⟩ := mq_text0 (y3 := y3) q hA hC hW e3
      exact fs_ki_of ⟨v1, v2, v3, b.is10, mc_text r1 b fun _ a2 => fs_ki_of (tl3 a2 r3 (fun _ => by rw [r4]; exact eg) fun h3 a3 => next1 h3 _ _ _ _ _ _ _ hA r2 a3)⟩
  rw [if_neg o10]
  by_cases o11 : ((xs (Int32.toNatClampNeg (nI z))) &&& (15 : Int32)) = 11
  · rw [if_pos o11]
    generalize xs (Int32.toNatClampNeg (nI z + 1)) = y1
    generalize xs (Int32.toNatClampNeg (nI z + 2)) = y2
    generalize xs (Int32.toNatClampNeg (nI z + 3)) = y3
    generalize xs (Int32.toNatClampNeg (nI z + 4)) = y4
    have j0 : ∀ (w0 : Int64) (h' : fs_Hp), (w_LW_law_L28 L xs E K Post m) z1 z2 z3 z4 (nI z + 5) (bc - 1000) (bs - 14000) h' → w_LW_law_L28_J898 L xs (w_LW_law_L28 L xs E K Post m) E K Post z1 z2 z3 z4 (nI z) w0 w0 (bc - 1000) (bs - 14000) h' := fun w0 h' hh => by
      unfold w_LW_law_L28_J898
      rw [if_pos (lg_self _)]
      exact hh
    refine ⟨v1, v2, v3, v4, 1000, 14000, hbc, hbs, lk_reaches hE a hA (fun e => ?_) (fun C W C' W' hC hW hC' hW' e1 e2 e3 e4 h1 g b eg => ?_)⟩
    · obtain ⟨r, r1, r2, r3⟩ := mq_reach1 q e
      refine fs_ki_of ⟨v1, v2, v3, v4, a.is10, mc_reaches r1 a fun _ a2 => fs_ki_of ⟨a2.is10, mc_thrown a2 fun h3 a3 => fs_ki_of ?_⟩⟩
      rw [if_pos r3, if_neg n10]
      exact next1 h3 _ _ _ _ _ _ _ hA r2 a3
    · subst e1
      subst e2
      subst e3
      subst e4
      obtain ⟨r, r1, r2, r3, r4⟩ := mq_reach0 q hA hC hW hC' hW'
      refine fs_ki_of ⟨v1, v2, v3, v4, b.is10, mc_reaches r1 b fun _ a2 => fs_ki_of ?_⟩
      rw [r4]
      exact tlr a2 r3 (fun _ => eg) (j0 0) (j0 1) fun h3 a3 => next1 h3 _ _ _ _ _ _ _ hA r2 a3
  rw [if_neg o11]
  by_cases o12 : ((xs (Int32.toNatClampNeg (nI z))) &&& (15 : Int32)) = 12
  · rw [if_pos o12]
    generalize xs (Int32.toNatClampNeg (nI z + 1)) = y1
    obtain ⟨r, r1, r2, r3⟩ := mq_count q hA y1
    refine ⟨v1, a.1.isc, sh_count hE hA a.1 fun h1 c u => fs_ki_of ⟨v1, (a.cls c u).is10, mc_count r1 (a.cls c u) fun h2 a2 => fs_ki_of ?_⟩⟩
    rw [if_pos r3.symm]
    exact next2 h2 _ _ _ _ _ _ _ hA r2 a2
  rw [if_neg o12]
  exact next2 h _ _ _ _ _ _ _ hA q a
theorem lw_loop (hE : fs_In E) (hL : L ≤ 2560) (hK : ∀ bc bs h, K bc bs h) : ∀ (m z : Nat) (h : fs_Hp) (A : Shh) (f : Nat → Int32) (n : Nat) (er : Int32) (M : mo_S) (g3 : Nat → Int64) (g4 : Nat → UInt64) (bc bs : Nat), L < z + 5 * (m + 1) → z ≤ 2600 → 1000 * m ≤ bc → 14000 * m ≤ bs → shok A → MoQ M A f n er → LI E ad z1 z2 z3 z4 h A f n er M g3 g4 → w_LW_law_L28 L xs E K Post (m + 1) z1 z2 z3 z4 (nI z) bc bs h := by
  intro m
  induction m with
  | zero =>
    intro z h A f n er M g3 g4 bc bs h1 h2 _ _ _ _ _
    rw [w_LW_law_L28]
    try dsimp only
    rw [if_pos ((lw_end hL h2).mpr (by omega))]
    exact hK _ _ _
  | succ m ih =>
    intro z h A f n er M g3 g4 bc bs h1 h2 hbc hbs hA q a
    by_cases hz : L < z + 5
    · rw [w_LW_law_L28]
      try dsimp only
      rw [if_pos ((lw_end hL h2).mpr hz)]
      exact hK _ _ _
    · have e5 : (nI z + 5 : Int32) = nI (z + 5) := nI_add z 5
      refine lw_step hE (by omega) hL (by omega) (by omega) hA q a (fun h' A' f' n' er' M' g3' g4' c1 c2 c3 => ?_) (fun h' A' f' n' er' M' g3' g4' c1 c2 c3 => ?_)
      · rw [e5]
        exact ih (z + 5) h' A' f' n' er' M' g3' g4' _ _ (by omega) (by omega) (by omega) (by omega) c1 c2 c3
      · rw [e5]
        exact ih (z + 5) h' A' f' n' er' M' g3' g4' _ _ (by omega) (by omega) (by omega) (by omega) c1 c2 c3
end
/-! Pure: the whole claim. -/
/-- the class's state where other things lie too -/
theorem CI.grow {E : fs_E} {U U' : Nat → Prop} {h h' : fs_Hp} {x n : Nat} {A : Shh} {f : Nat → Int32} {er : Int32} (c : CI E U h x A f n er) (e : ext h h') (hU : ∀ q, U' q → h q = none ∧ h' q ≠ none ∧ ∀ fs, h' q ≠ some (.inr (5, fs))) : CI E U' h' x A f n er := by
  obtain ⟨ln, ch, ce, fil, fo, va, re, ga, od, sb, v, cap, t, x2, x3, st, bf, vf, ff, rf, oo, Fs, c⟩ := c
  obtain ⟨c', _⟩ := c.byX e
  refine ⟨ln, ch, ce, fil, fo, va, re, ga, od, sb, v, cap, t, x2, x3, st, bf, vf, ff, rf, oo, Fs, c'.1, c'.2.1, c'.2.2.1, c'.2.2.2.1, c'.2.2.2.2.1, c'.2.2.2.2.2.1, fun q hq => ?_⟩
  obtain ⟨u1, u2, u3⟩ := hU q hq
  exact ⟨u2, u3, fun w => c.nnn w u1, fun w => ccp_some c.2.1 w u1⟩
theorem fs_claim : fs_Claim := by
  intro E hE L xs hL
  refine ⟨by decide, by decide, fun z1 n1 => ⟨100, 800, by decide, by decide, ?_⟩⟩
  refine sh_init fs_up_self (by decide) (by decide) fun h1 c1 => fs_kv_of ⟨by decide, by decide, fun z2 n2 => ⟨30, 20000, by decide, by decide, ?_⟩⟩
  refine mo_init fs_up_self (by decide) (by decide) fun h2 ad m1 m2 m3 => fs_kv_of ?_
  rw [cl1]
  refine ⟨by decide, by decide, by decide, by decide, fun z3 n3 => ⟨by decide, by decide, by decide, by decide, fun z4 n4 => ⟨512 + 1, ?_⟩⟩⟩
  have ne : ∀ (h : fs_Hp) (q : Nat) (e : va_E), h q = some e → h q ≠ none := fun h q e w => by rw [w]; exact fun w => by cases w
  have n34 : z3 ≠ z4 := fun w => by rw [← w, fs_up_self] at n4; cases n4
  have k4 : h2 z4 = none := (fs_up_ne (Ne.symm n34)).symm.trans n4
  have hH : ∃ H, H = fs_up (fs_up h2 z3 (.inl (E.1.2 1, 1, .inr (.inl (fun _ : Nat => (0 : Int64)))))) z4 (.inl (E.1.2 2, 1, .inr (.inr (.inr (.inl (fun _ : Nat => (0 : UInt64))))))) := ⟨_, rfl⟩
  obtain ⟨H, eH⟩ := hH
  have Ho : ∀ q, h2 q ≠ none → H q = h2 q := fun q hq => by rw [eH, fs_up_ne (show q ≠ z4 from fun w => hq (w ▸ k4)), fs_up_ne (show q ≠ z3 from fun w => hq (w ▸ n3))]
  have H3 : H z3 = some (.inl (E.1.2 1, 1, .inr (.inl (fun _ => 0)))) := by rw [eH]; exact fs_up_at n34 fs_up_self
  have H4 : H z4 = some (.inl (E.1.2 2, 1, .inr (.inr (.inr (.inl (fun _ => 0)))))) := by rw [eH]; exact fs_up_self
  have har : ∀ j, mo_ar j ≠ none → h2 (ad j) ≠ none := fun j hj => by
    cases e : mo_ar j with
    | none => exact absurd e hj
    | some y =>
      obtain ⟨t, k⟩ := y
      exact ne _ _ _ (m1.2.1 j t k e)
  have mH : mo_at E.1 H z2 ad moZ := ⟨(Ho z2 (ne _ _ _ m1.1)).trans m1.1, fun j t k hj => (Ho (ad j) (har j (by rw [hj]; exact fun w => by cases w))).trans (m1.2.1 j t k hj), m1.2.2⟩
  have h12 : ∀ q, h1 q ≠ none → h2 q = h1 q := fun q hq => by
    have qz : q ≠ z2 := fun w => hq (w ▸ n2)
    have e := fs_up_ne (h := h1) (e := .inr (10, [.null, .null, .null, .null, .null, .null, .null, .null, .null, .int 0, .int 0, .int 0, .int 0, .null, .null, .null, .null, .null, .null, .null, .null, .null, .int 0, .int 0, .int 0, .null, .null, .null, .null, .int 0, .int 0, .null, .null, .null, .int 0, .int 0])) qz
    rw [m3 q qz (by rw [e]; exact hq), e]
  have cH : CI E (UU z2 ad z3 z4) H z1 (fun _ => none) (fun _ => 0) 0 (-1) := by
    refine c1.grow (fun q hq => ?_) (fun q hq => ⟨?_, uu_ok mH H3 H4 q hq⟩)
    · rw [Ho q (by rw [h12 q hq]; exact hq), h12 q hq]
    · have key : h2 q = none → h1 q = none := fun w => by
        cases e : h1 q with
        | none => rfl
        | some y =>
          have := h12 q (by rw [e]; exact fun w => by cases w)
          rw [w, e] at this
          cases this
      rcases hq with rfl | ⟨j, hj, rfl⟩ | rfl | rfl
      · exact n2
      · have := m2 j hj
        exact (fs_up_ne (fun w => by rw [w, fs_up_self] at this; cases this)).symm.trans this
      · exact key n3
      · exact key k4
  have lH : LI E ad z1 z2 z3 z4 H (fun _ => none) (fun _ => 0) 0 (-1) moZ (fun _ => 0) (fun _ => 0) := ⟨cH, mH, H3, H4, fun j hj => ⟨fun w => har j hj (w ▸ n3), fun w => har j hj (w ▸ k4)⟩⟩
  have goal := lw_loop (K := fun _ _ _ => (.inl (some (.int 1)) : fs_O) = .inl (some (.int 1))) (Post := fun o _ => o = .inl (some (.int 1))) (xs := xs) hE hL (fun _ _ _ => rfl) 512 0 H _ _ _ _ _ _ _ (((((601024 - 1 - 100) - 1) - 30) - 1) - 1) (((((7293034 - 4 - 800) - 36) - 20000) - 1) - 1) (by omega) (by omega) (by decide) (by decide) (fun k hk => ⟨fun d w => (by cases w), fun L w => (by cases w)⟩) mq_init lH
  rw [eH] at goal
  exact goal
theorem i_vc : Claimed_1_1 ∧ Claimed_1_2 := fs_vc fs_claim
