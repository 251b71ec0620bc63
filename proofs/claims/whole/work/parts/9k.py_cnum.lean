/-! Pure: the class writes numerals, and whole formulas. -/
theorem lN_toInt' {n : Nat} (h : n < 2 ^ 63) : (lN n).toInt = (n : Int) := by
  unfold lN; exact Int64.toInt_ofNat_of_lt (by omega)
theorem lN_dv {d s : Nat} (h : d < 2 ^ 62) (hs : 0 < s) (hs2 : s < 2 ^ 62) : lN d / lN s = lN (d / s) := by
  apply Int64.toInt_inj.mp
  have hq : d / s ≤ d := Nat.div_le_self d s
  rw [Int64.toInt_div, lN_toInt' (by omega), lN_toInt' (by omega), lN_toInt' (by omega), Int.tdiv_eq_ediv_of_nonneg (by omega), ← Int.natCast_ediv]
  generalize d / s = q at hq ⊢
  exact Int.bmod_eq_of_le (by omega) (by omega)
theorem lN_ml (a b : Nat) : lN a * lN b = lN (a * b) := (Int64.ofNat_mul a b).symm
theorem lN_sb {a b : Nat} (h : b ≤ a) (ha : a < 2 ^ 63) : lN a - lN b = lN (a - b) := by
  apply Int64.toInt_inj.mp
  rw [Int64.toInt_sub, lN_toInt' (by omega), lN_toInt' (by omega), lN_toInt' (by omega), Int.bmod_eq_of_le (by omega) (by omega)]
  omega
theorem lN_rm {d s : Nat} (h : d < 2 ^ 62) (hs : 0 < s) (hs2 : s < 2 ^ 62) : lN d - lN d / lN s * lN s = lN (d % s) := by
  have h1 : d / s * s ≤ d := Nat.div_mul_le_self d s
  rw [lN_dv h hs hs2, lN_ml, lN_sb h1 (by omega)]
  congr 1
  have := Nat.div_add_mod d s
  rw [Nat.mul_comm] at this
  omega
theorem lN_i3 {n : Nat} (h : n < 2 ^ 31) : Int64.toInt32 (lN n) = nI n := by
  apply Int32.toInt_inj.mp
  rw [Int64.toInt_toInt32, lN_toInt' (by omega), nI_toInt h, Int.bmod_eq_of_le (by omega) (by omega)]
theorem lN_ad (a b : Nat) : lN a + lN b = lN (a + b) := (Int64.ofNat_add a b).symm
theorem lN_ne {s : Nat} (h : 0 < s) (h2 : s < 2 ^ 62) : ¬ lN s = 0 := by
  intro z
  have := congrArg Int64.toInt z
  rw [lN_toInt' (by omega), show (0 : Int64).toInt = 0 by decide] at this
  omega
theorem dig_c : ∀ x, x < 10 → (Int32.toUInt32 (Int64.toInt32 (48 + lN x)) % 65536).toInt32 = nI (48 + x) := by decide
theorem dgl_top : ∀ k z, dgl (k + 1) z = (48 + z / 10 ^ k % 10) :: dgl k z := by
  intro k
  induction k with
  | zero => intro z; simp [dgl]
  | succ k ih =>
    intro z
    rw [dgl, ih, List.cons_append, Nat.div_div_eq_div_mul, show 10 * 10 ^ k = 10 ^ (k + 1) by rw [Nat.pow_succ, Nat.mul_comm]]
    rfl
theorem dgl_mod : ∀ k z, dgl k (z % 10 ^ k) = dgl k z := by
  intro k
  induction k with
  | zero => intro z; rfl
  | succ k ih =>
    intro z
    have h1 : z % 10 ^ (k + 1) % 10 = z % 10 := Nat.mod_mod_of_dvd z (by rw [Nat.pow_succ]; exact Nat.dvd_mul_left 10 (10 ^ k))
    have h2 : z % 10 ^ (k + 1) / 10 = z / 10 % 10 ^ k := by
      rw [Nat.pow_succ, Nat.mul_comm, Nat.mod_mul_right_div_self]
    rw [dgl, dgl, h1, h2, ih]
/-- of k digits behind the point, the rest scaled -/
theorem frd_dgl : ∀ k b z, k ≤ b → z < 10 ^ k → frd k (10 ^ b) (z * 10 ^ (b - k)) = dgl k z := by
  intro k
  induction k with
  | zero => intro b z _ _; rfl
  | succ k ih =>
    intro b z hk hz
    have e1 : z * 10 ^ (b - (k + 1)) * 10 = z * 10 ^ (b - k) := by
      rw [Nat.mul_assoc, ← Nat.pow_succ]
      congr 2
      omega
    have e2 : 10 ^ b = 10 ^ k * 10 ^ (b - k) := by rw [← Nat.pow_add]; congr 1; omega
    have hp : 0 < 10 ^ (b - k) := Nat.pow_pos (by decide)
    have e3 : z * 10 ^ (b - k) / 10 ^ b = z / 10 ^ k := by rw [e2, Nat.mul_div_mul_right _ _ hp]
    have e4 : z * 10 ^ (b - k) % 10 ^ b = z % 10 ^ k * 10 ^ (b - k) := by rw [e2, Nat.mul_mod_mul_right]
    have h10 : z / 10 ^ k < 10 := by
      rw [Nat.div_lt_iff_lt_mul (Nat.pow_pos (by decide))]
      rw [Nat.pow_succ, Nat.mul_comm] at hz
      exact hz
    rw [frd, e1, e3, e4, ih b (z % 10 ^ k) (by omega) (Nat.mod_lt _ (Nat.pow_pos (by decide))), dgl_top, dgl_mod, Nat.mod_eq_of_lt h10]
theorem lN_toNat {d : Nat} (h : d < 2 ^ 63) : (lN d).toBitVec.toNat = d := by
  show (BitVec.ofNat 64 d).toNat = d
  rw [BitVec.toNat_ofNat]
  omega
theorem nu_L42 {self : Nat → Nat → fs_E → fs_Hp → Nat → Nat → fs_Ps → Prop} {E : fs_E} {h0 : fs_Hp} {sb v0 cap0 Cf r b i : Nat} {T t0 : List Nat} {D : Int64} {K : Nat → Nat → fs_Hp → Prop} {Post : fs_Ps} (h1 : h0 r = some (.inr (4, [.long D, .int (nI b), .ref i]))) (hb : b ≤ 4) (a : sbR E h0 sb v0 cap0 t0) : ∀ (k z mc ms : Nat) (h : fs_Hp), k ≤ b → z < 10 ^ b → Gd E h0 sb v0 T Cf ((frd k (10 ^ b) z).map fun c => [c]) mc ms h → (∀ h' mc' ms', Gd E h0 sb v0 T Cf [] mc' ms' h' → K mc' ms' h') → w_NU_writeBare_L42 self E K Post (k + 1) r sb (lN (10 ^ b)) (lN z) (nI (b - k)) mc ms h := by
  have hp : 10 ^ b ≤ 10000 := Nat.pow_le_pow_right (by decide) hb
  have hp0 : 0 < 10 ^ b := Nat.pow_pos (by decide)
  intro k
  induction k with
  | zero =>
    intro z mc ms h hk hz g hK
    rw [w_NU_writeBare_L42]
    refine fs_gi_of (g.obj a h1 (by decide)) rfl ?_
    rw [if_pos (nI_le (by omega) (by omega))]
    exact hK h mc ms g
  | succ k ih =>
    intro z mc ms h hk hz g hK
    have hd : z * 10 / 10 ^ b < 10 := by
      rw [Nat.div_lt_iff_lt_mul hp0]
      omega
    rw [w_NU_writeBare_L42]
    refine fs_gi_of (g.obj a h1 (by decide)) rfl ?_
    rw [if_neg (nI_ge (by omega) (by omega))]
    refine ⟨lN_ne hp0 (by omega), ?_⟩
    rw [show (10 : Int64) = lN 10 from rfl, lN_ml, lN_rm (by omega) hp0 (by omega), lN_dv (by omega) hp0 (by omega), dig_c _ hd, nI_1, show b - (k + 1) + 1 = b - k by omega]
    refine g_chr (c := 48 + z * 10 / 10 ^ b) g (by omega) fun c' s' h' g' => fs_kr_of ⟨lN_ne hp0 (by omega), ?_⟩
    exact ih (z * 10 % 10 ^ b) _ _ h' (by omega) (Nat.mod_lt _ hp0) g' hK
theorem wr_num {self : Nat → Nat → fs_E → fs_Hp → Nat → Nat → fs_Ps → Prop} {E : fs_E} {h0 h : fs_Hp} {sb v0 cap0 Cf mc ms r b d i : Nat} {T t0 : List Nat} {Post : fs_Ps} (h1 : h0 r = some (.inr (4, [.long (lN d), .int (nI b), .ref i]))) (hb : b ≤ 4) (hd : d < 1000000000 * 10 ^ b) (a : sbR E h0 sb v0 cap0 t0) (g : Gd E h0 sb v0 T Cf (nuC b d) mc ms h) (K : ∀ h' mc' ms', Gd E h0 sb v0 T Cf [] mc' ms' h' → Post (.inl none) h') : w_NU_writeBare self mc ms E h r sb Post := by
  have hp : 10 ^ b ≤ 10000 := Nat.pow_le_pow_right (by decide) hb
  have hp0 : 0 < 10 ^ b := Nat.pow_pos (by decide)
  have hd2 : d < 10000000000000 := by omega
  have hq : d / 10 ^ b < 1000000000 := by
    rw [Nat.div_lt_iff_lt_mul hp0]
    exact hd
  have hr1 := g.obj a h1 (by decide)
  have j31 : ∀ mc ms h, Gd E h0 sb v0 T Cf ((frd b (10 ^ b) (d % 10 ^ b)).map fun c => [c]) mc ms h → w_NU_writeBare_J31 self E Post r sb (lN (10 ^ b)) mc ms h := by
    intro mc ms h g
    unfold w_NU_writeBare_J31
    refine fs_gl_of (g.obj a h1 (by decide)) rfl ⟨lN_ne hp0 (by omega), b + 1, ?_⟩
    rw [lN_rm (by omega) hp0 (by omega)]
    have := nu_L42 (self := self) (K := fun _ _ h' => Post (.inl none) h') (Post := Post) h1 hb a b (d % 10 ^ b) mc ms h (Nat.le_refl _) (Nat.mod_lt _ hp0) g fun h' mc' ms' g' => K h' mc' ms' g'
    rw [Nat.sub_self] at this
    exact this
  unfold w_NU_writeBare
  refine ⟨fs_isc_of hr1, ⟨b + 1, nu_scale hr1 hb ?_ b 0 (by omega)⟩⟩
  refine fs_kl_of (fs_gl_of hr1 rfl ⟨lN_ne hp0 (by omega), ?_⟩)
  rw [lN_dv (by omega) hp0 (by omega), lN_i3 (by omega)]
  refine g_int (w := d / 10 ^ b) g hq fun c' s' h' g' => fs_kr_of (fs_gi_of (g'.obj a h1 (by decide)) rfl ?_)
  by_cases hb0 : b = 0
  · rw [if_pos (by rw [hb0]; decide)]
    refine j31 _ _ _ ?_
    have e : nuC b d = [dgl (dsz (d / 10 ^ b)) (d / 10 ^ b)] := by unfold nuC; rw [if_pos hb0, List.append_nil]
    rw [if_pos hb0] at g'
    rw [hb0]
    exact g'
  · rw [if_neg (show ¬ nI b ≤ 0 from nI_ge (a := 0) (by omega) (by omega))]
    rw [if_neg hb0] at g'
    exact g_chr (c := 46) g' (by decide) fun c2 s2 h2 g2 => fs_kr_of (j31 _ _ _ g2)
