/-! Pure: bits of longs, and how many there are. -/
/-- bit i of a long -/
def bt (x : Int64) (i : Nat) : Bool := x.toBitVec.getLsbD i
theorem bt_0 (i : Nat) : bt 0 i = false := by
  show (0 : Int64).toBitVec.getLsbD i = false
  rw [show (0 : Int64).toBitVec = 0#64 from rfl, BitVec.getLsbD_zero]
theorem bt_or (x y : Int64) (i : Nat) : bt (x ||| y) i = (bt x i || bt y i) := by
  show (x ||| y).toBitVec.getLsbD i = _
  rw [Int64.toBitVec_or, BitVec.getLsbD_or]
  rfl
theorem sh_amt : ∀ n, n < 64 → (Int32.toInt64 (nI n) &&& 63) = Int64.ofNat n ∧ ((Int32.toInt64 (nI n)).toUInt64 &&& Int64.toUInt64 63) = UInt64.ofNat n := by decide +kernel
theorem bt_one {n : Nat} (h : n < 64) (i : Nat) : bt (1 <<< (Int32.toInt64 (nI n) &&& 63)) i = decide (i = n) := by
  rw [(sh_amt n h).1]
  show ((1 : Int64) <<< (Int64.ofNat n)).toBitVec.getLsbD i = _
  rw [Int64.toBitVec_shiftLeft]
  have e : (Int64.ofNat n).toBitVec.smod 64 = BitVec.ofNat 64 n := by
    revert n
    decide +kernel
  rw [e, show (1 : Int64).toBitVec = 1#64 from rfl]
  rw [BitVec.shiftLeft_eq', BitVec.getLsbD_shiftLeft, BitVec.toNat_ofNat, Nat.mod_eq_of_lt (by omega), BitVec.getLsbD_one]
  by_cases hi : i = n
  · subst hi
    simp [h]
  · simp [hi]
    omega
theorem bt_and1 (y : Int64) : (y &&& 1) = if bt y 0 then 1 else 0 := by
  apply Int64.toBitVec_inj.mp
  rw [Int64.toBitVec_and]
  show y.toBitVec &&& 1#64 = _
  rw [BitVec.and_one_eq_setWidth_ofBool_getLsbD]
  unfold bt
  cases y.toBitVec.getLsbD 0 <;> rfl
theorem bt_cmp0 (y : Int64) : lg_cmp (y &&& (1 : Int64)) 0 = 0 ↔ bt y 0 = false := by
  rw [bt_and1]
  cases bt y 0 <;> decide
theorem bt_cmp1 (y : Int64) : lg_cmp (y &&& (1 : Int64)) 1 = 0 ↔ bt y 0 = true := by
  rw [bt_and1]
  cases bt y 0 <;> decide
theorem bt_shr {n : Nat} (h : n < 64) (x : Int64) : bt ((Int64.toUInt64 x >>> ((Int32.toInt64 (nI n)).toUInt64 &&& Int64.toUInt64 63)).toInt64) 0 = bt x n := by
  rw [(sh_amt n h).2]
  show (Int64.toUInt64 x >>> UInt64.ofNat n).toBitVec.getLsbD 0 = x.toBitVec.getLsbD n
  rw [UInt64.toBitVec_shiftRight]
  have e : (UInt64.ofNat n).toBitVec % 64 = BitVec.ofNat 64 n := by
    revert n
    decide +kernel
  rw [e, BitVec.ushiftRight_eq', BitVec.getLsbD_ushiftRight, BitVec.toNat_ofNat, Nat.mod_eq_of_lt (by omega), Nat.add_zero]
  rfl
theorem bt_sar {n : Nat} (h : n < 64) (x : Int64) : bt (x >>> (Int32.toInt64 (nI n) &&& 63)) 0 = bt x n := by
  rw [(sh_amt n h).1]
  show (x >>> (Int64.ofNat n)).toBitVec.getLsbD 0 = x.toBitVec.getLsbD n
  rw [Int64.toBitVec_shiftRight]
  have e : (Int64.ofNat n).toBitVec.smod 64 = BitVec.ofNat 64 n := by
    revert n
    decide +kernel
  rw [e, BitVec.sshiftRight_eq', BitVec.getLsbD_sshiftRight, BitVec.toNat_ofNat, Nat.mod_eq_of_lt (by omega), Nat.add_zero]
  simp [h]
/-- digits in a base, the first k -/
def vd (B : Nat) : Nat → (Nat → Nat) → Nat
  | 0, _ => 0
  | k + 1, f => f 0 + B * vd B k (fun i => f (i + 1))
theorem vd_add (B : Nat) : ∀ k f g, vd B k f + vd B k g = vd B k (fun i => f i + g i) := by
  intro k
  induction k with
  | zero => intro f g; rfl
  | succ k ih =>
    intro f g
    simp only [vd]
    rw [← ih, Nat.mul_add]
    omega
theorem vd_eq (B : Nat) : ∀ k f g, (∀ i, i < k → f i = g i) → vd B k f = vd B k g := by
  intro k
  induction k with
  | zero => intro f g _; rfl
  | succ k ih =>
    intro f g h
    simp only [vd]
    rw [h 0 (by omega), ih _ _ fun i hi => h (i + 1) (by omega)]
theorem vd_pair (B : Nat) : ∀ k f, vd B (2 * k) f = vd (B * B) k (fun i => f (2 * i) + B * f (2 * i + 1)) := by
  intro k
  induction k with
  | zero => intro f; rfl
  | succ k ih =>
    intro f
    rw [show 2 * (k + 1) = 2 * k + 1 + 1 by omega]
    simp only [vd]
    rw [ih]
    simp only [show ∀ i, 2 * (i + 1) = 2 * i + 1 + 1 by intro i; omega]
    rw [Nat.mul_add, ← Nat.mul_assoc, Nat.mul_zero, Nat.zero_add]
    omega
theorem vd_div {B : Nat} (hB : 0 < B) : ∀ k f, f 0 < B → f k = 0 → vd B k f / B = vd B k (fun i => f (i + 1)) := by
  intro k f h0 hk
  have e : vd B k f = vd B (k + 1) f := by
    clear h0
    induction k generalizing f with
    | zero => simp [vd, hk]
    | succ k ih =>
      rw [vd, vd, ih (fun i => f (i + 1)) hk]
  rw [e, vd, Nat.add_mul_div_left _ _ hB, Nat.div_eq_of_lt h0, Nat.zero_add]
theorem and_dig {w a b c d : Nat} (ha : a < 2 ^ w) (hc : c < 2 ^ w) : (a + 2 ^ w * b) &&& (c + 2 ^ w * d) = (a &&& c) + 2 ^ w * (b &&& d) := by
  apply Nat.eq_of_testBit_eq
  intro j
  rw [Nat.testBit_and, Nat.add_comm a, Nat.add_comm c, Nat.add_comm (a &&& c), Nat.testBit_two_pow_mul_add _ ha, Nat.testBit_two_pow_mul_add _ hc, Nat.testBit_two_pow_mul_add _ (Nat.lt_of_le_of_lt Nat.and_le_left ha)]
  split
  · rw [Nat.testBit_and]
  · rw [Nat.testBit_and]
theorem vd_and {B w : Nat} (hB : B = 2 ^ w) : ∀ k f g, (∀ i, f i < B) → (∀ i, g i < B) → vd B k f &&& vd B k g = vd B k (fun i => f i &&& g i) := by
  subst hB
  intro k
  induction k with
  | zero => intro f g _ _; exact Nat.and_self 0
  | succ k ih =>
    intro f g hf hg
    simp only [vd]
    rw [and_dig (hf 0) (hg 0), ih _ _ (fun i => hf (i + 1)) (fun i => hg (i + 1))]
/-- the bits as digits -/
theorem vd_bits : ∀ k n, n < 2 ^ k → n = vd 2 k (fun i => n / 2 ^ i % 2) := by
  intro k
  induction k with
  | zero => intro n h; simp [vd]; omega
  | succ k ih =>
    intro n h
    rw [vd]
    have := ih (n / 2) (by rw [Nat.pow_succ] at h; omega)
    rw [show (fun i => n / 2 ^ (i + 1) % 2) = (fun i => n / 2 / 2 ^ i % 2) by funext i; rw [Nat.div_div_eq_div_mul, Nat.pow_succ, Nat.mul_comm (2 ^ i)], ← this]
    simp
    omega

theorem vd_lt {B : Nat} : ∀ k f, (∀ i, f i < B) → vd B k f < B ^ k := by
  intro k
  induction k with
  | zero => intro f _; exact Nat.one_pos
  | succ k ih =>
    intro f h
    rw [vd, Nat.pow_succ, Nat.mul_comm]
    have h1 := ih (fun i => f (i + 1)) fun i => h (i + 1)
    have h2 : vd B k (fun i => f (i + 1)) + 1 ≤ B ^ k := h1
    have h3 := Nat.mul_le_mul_right B h2
    have h4 := h 0
    rw [Nat.add_mul, Nat.one_mul, Nat.mul_comm] at h3
    rw [Nat.mul_comm (vd B k _) B]
    omega
theorem dg_1 : ∀ x, x < 2 → ∀ y, y < 2 → (x + 2 * y) &&& 1 = x := by decide
theorem dg_3 : ∀ x, x < 3 → ∀ y, y < 3 → (x + 4 * y) &&& 3 = x := by decide
theorem dg_15 : ∀ x, x < 9 → ∀ y, y < 9 → (x + 16 * y) &&& 15 = x := by decide
theorem bc_1 {b : Nat → Nat} (hb : ∀ i, b i < 2) (h64 : ∀ i, 64 ≤ i → b i = 0) : ((vd 2 64 b) / 2 &&& 0x5555555555555555) + vd 4 32 (fun i => b (2 * i) + b (2 * i + 1)) = vd 2 64 b := by
  rw [vd_div (by decide) 64 b (hb 0) (h64 64 (by omega)), vd_pair 2 32, show (0x5555555555555555 : Nat) = vd 4 32 (fun _ => 1) by decide, show (2 * 2 : Nat) = 4 from rfl, vd_and (B := 4) (w := 2) rfl 32 _ _ (fun i => by have := hb (2 * i + 1); have := hb (2 * i + 1 + 1); omega) (fun _ => by decide), vd_add, vd_pair 2 32]
  refine vd_eq _ _ _ _ fun i _ => ?_
  rw [dg_1 _ (hb _) _ (hb _)]
  omega
theorem bc_2 {p : Nat → Nat} (hp : ∀ i, p i < 3) (h32 : ∀ i, 32 ≤ i → p i = 0) : ((vd 4 32 p) &&& 0x3333333333333333) + ((vd 4 32 p) / 4 &&& 0x3333333333333333) = vd 16 16 (fun i => p (2 * i) + p (2 * i + 1)) := by
  rw [vd_div (by decide) 32 p (by have := hp 0; omega) (h32 32 (by omega)), vd_pair 4 16, vd_pair 4 16, show (0x3333333333333333 : Nat) = vd 16 16 (fun _ => 3) by decide, show (4 * 4 : Nat) = 16 from rfl, vd_and (B := 16) (w := 4) rfl 16 _ _ (fun i => by have := hp (2 * i); have := hp (2 * i + 1); omega) (fun _ => by decide), vd_and (B := 16) (w := 4) rfl 16 _ _ (fun i => by have := hp (2 * i + 1); have := hp (2 * i + 1 + 1); omega) (fun _ => by decide), vd_add]
  refine vd_eq _ _ _ _ fun i _ => ?_
  rw [dg_3 _ (hp _) _ (hp _), dg_3 _ (hp _) _ (hp _)]
theorem bc_3 {q : Nat → Nat} (hq : ∀ i, q i < 5) (h16 : ∀ i, 16 ≤ i → q i = 0) : ((vd 16 16 q) + (vd 16 16 q) / 16) &&& 0x0f0f0f0f0f0f0f0f = vd 256 8 (fun i => q (2 * i) + q (2 * i + 1)) := by
  rw [vd_div (by decide) 16 q (by have := hq 0; omega) (h16 16 (by omega)), vd_add, vd_pair 16 8, show (0x0f0f0f0f0f0f0f0f : Nat) = vd 256 8 (fun _ => 15) by decide, show (16 * 16 : Nat) = 256 from rfl, vd_and (B := 256) (w := 8) rfl 8 _ _ (fun i => by have := hq (2 * i); have := hq (2 * i + 1); have := hq (2 * i + 1 + 1); omega) (fun _ => by decide)]
  refine vd_eq _ _ _ _ fun i _ => ?_
  rw [dg_15 _ (by have := hq (2 * i); have := hq (2 * i + 1); omega) _ (by have := hq (2 * i + 1); have := hq (2 * i + 1 + 1); omega)]
theorem bc_4 {r : Nat → Nat} (hr : ∀ i, r i < 9) (h8 : ∀ i, 8 ≤ i → r i = 0) : ∃ d e f : Nat, d = vd 256 8 r + vd 256 8 r / 256 ∧ e = d + d / 65536 ∧ f = e + e / 4294967296 ∧ f < 2 ^ 64 ∧ f % 128 = r 0 + r 1 + r 2 + r 3 + r 4 + r 5 + r 6 + r 7 := by
  have k1 : ∀ (s : Nat → Nat), (∀ i, s i < 250) → (∀ i, 8 ≤ i → s i = 0) → vd 256 8 s / 256 = vd 256 8 (fun i => s (i + 1)) := fun s h1 h2 => vd_div (by decide) 8 s (by have := h1 0; omega) (h2 8 (by omega))
  have k2 : ∀ (s : Nat → Nat), (∀ i, s i < 250) → (∀ i, 8 ≤ i → s i = 0) → vd 256 8 s / 65536 = vd 256 8 (fun i => s (i + 2)) := by
    intro s h1 h2
    rw [show (65536 : Nat) = 256 * 256 from rfl, ← Nat.div_div_eq_div_mul, k1 s h1 h2, k1 _ (fun i => h1 (i + 1)) (fun i hi => h2 (i + 1) (by omega))]
  have k4 : ∀ (s : Nat → Nat), (∀ i, s i < 250) → (∀ i, 8 ≤ i → s i = 0) → vd 256 8 s / 4294967296 = vd 256 8 (fun i => s (i + 4)) := by
    intro s h1 h2
    rw [show (4294967296 : Nat) = 65536 * 65536 from rfl, ← Nat.div_div_eq_div_mul, k2 s h1 h2, k2 _ (fun i => h1 (i + 2)) (fun i hi => h2 (i + 2) (by omega))]
  refine ⟨_, _, _, rfl, rfl, rfl, ?_⟩
  rw [k1 r (fun i => by have := hr i; omega) h8, vd_add]
  rw [k2 (fun i => r i + r (i + 1)) (fun i => by have := hr i; have := hr (i + 1); omega) (fun i hi => by rw [h8 i hi, h8 (i + 1) (by omega)]), vd_add]
  rw [k4 (fun i => r i + r (i + 1) + (r (i + 2) + r (i + 2 + 1))) (fun i => by have := hr i; have := hr (i + 1); have := hr (i + 2); have := hr (i + 2 + 1); omega) (fun i hi => by rw [h8 i hi, h8 (i + 1) (by omega), h8 (i + 2) (by omega), h8 (i + 2 + 1) (by omega)]), vd_add]
  have e := vd_lt (B := 256) 8 (fun i => r i + r (i + 1) + (r (i + 2) + r (i + 2 + 1)) + (r (i + 4) + r (i + 4 + 1) + (r (i + 4 + 2) + r (i + 4 + 2 + 1)))) (fun i => by have := hr i; have := hr (i + 1); have := hr (i + 2); have := hr (i + 2 + 1); have := hr (i + 4); have := hr (i + 4 + 1); have := hr (i + 4 + 2); have := hr (i + 4 + 2 + 1); omega)
  refine ⟨Nat.lt_of_lt_of_le e (by decide), ?_⟩
  rw [vd]
  have := hr 0; have := hr 1; have := hr 2; have := hr 3; have := hr 4; have := hr 5; have := hr 6; have := hr 7
  simp only [Nat.zero_add, Nat.reduceAdd]
  omega
theorem vd_le {B : Nat} : ∀ k (f g : Nat → Nat), (∀ i, f i ≤ g i) → vd B k f ≤ vd B k g := by
  intro k
  induction k with
  | zero => intro f g _; exact Nat.le_refl _
  | succ k ih =>
    intro f g h
    rw [vd, vd]
    exact Nat.add_le_add (h 0) (Nat.mul_le_mul_left B (ih _ _ fun i => h (i + 1)))
theorem bc_nat {n : Nat} (hn : n < 2 ^ 64) : ∃ a b c d e f : Nat,
    a = n - ((n / 2) &&& 0x5555555555555555) ∧ (n / 2) &&& 0x5555555555555555 ≤ n ∧
    b = (a &&& 0x3333333333333333) + ((a / 4) &&& 0x3333333333333333) ∧ b < 2 ^ 63 ∧
    c = (b + b / 16) &&& 0x0f0f0f0f0f0f0f0f ∧ c < 2 ^ 60 ∧
    d = c + c / 256 ∧ e = d + d / 65536 ∧ f = e + e / 4294967296 ∧ f < 2 ^ 64 ∧
    f % 128 = ((List.range 64).map fun i => n / 2 ^ i % 2).sum := by
  have hb : ∀ i, n / 2 ^ i % 2 < 2 := fun i => Nat.mod_lt _ (by decide)
  have h64 : ∀ i, 64 ≤ i → n / 2 ^ i % 2 = 0 := by
    intro i hi
    rw [Nat.div_eq_of_lt (Nat.lt_of_lt_of_le hn (Nat.pow_le_pow_right (by decide) hi))]
  have hv := vd_bits 64 n hn
  generalize hB : (fun i => n / 2 ^ i % 2) = B at hv
  have hb : ∀ i, B i < 2 := fun i => by rw [← hB]; exact hb i
  have h64 : ∀ i, 64 ≤ i → B i = 0 := fun i => by rw [← hB]; exact h64 i
  have b1 := bc_1 hb h64
  rw [← hv] at b1
  have hp : ∀ i, B (2 * i) + B (2 * i + 1) < 3 := fun i => by have := hb (2 * i); have := hb (2 * i + 1); omega
  have hp0 : ∀ i, 32 ≤ i → B (2 * i) + B (2 * i + 1) = 0 := fun i hi => by rw [h64 _ (by omega), h64 _ (by omega)]
  have b2 := bc_2 (p := fun i => B (2 * i) + B (2 * i + 1)) hp hp0
  have hq : ∀ i, B (2 * (2 * i)) + B (2 * (2 * i) + 1) + (B (2 * (2 * i + 1)) + B (2 * (2 * i + 1) + 1)) < 5 := fun i => by have := hp (2 * i); have := hp (2 * i + 1); omega
  have hq0 : ∀ i, 16 ≤ i → B (2 * (2 * i)) + B (2 * (2 * i) + 1) + (B (2 * (2 * i + 1)) + B (2 * (2 * i + 1) + 1)) = 0 := fun i hi => by rw [hp0 _ (by omega), hp0 _ (by omega)]
  have b3 := bc_3 (q := fun i => B (2 * (2 * i)) + B (2 * (2 * i) + 1) + (B (2 * (2 * i + 1)) + B (2 * (2 * i + 1) + 1))) hq hq0
  obtain ⟨d, e, f, f1, f2, f3, f4, f5⟩ := bc_4 (r := fun i => B (2 * (2 * (2 * i))) + B (2 * (2 * (2 * i)) + 1) + (B (2 * (2 * (2 * i) + 1)) + B (2 * (2 * (2 * i) + 1) + 1)) + (B (2 * (2 * (2 * i + 1))) + B (2 * (2 * (2 * i + 1)) + 1) + (B (2 * (2 * (2 * i + 1) + 1)) + B (2 * (2 * (2 * i + 1) + 1) + 1)))) (fun i => by have := hq (2 * i); have := hq (2 * i + 1); omega) (fun i hi => by rw [hq0 _ (by omega), hq0 _ (by omega)])
  refine ⟨_, _, _, d, e, f, rfl, by omega, rfl, ?_, rfl, ?_, ?_, f2, f3, f4, ?_⟩
  · rw [show n - ((n / 2) &&& 0x5555555555555555) = vd 4 32 (fun i => B (2 * i) + B (2 * i + 1)) by omega, b2]
    exact Nat.lt_of_le_of_lt (vd_le 16 _ (fun _ => 4) (fun i => by have := hq i; omega)) (by decide)
  · rw [show n - ((n / 2) &&& 0x5555555555555555) = vd 4 32 (fun i => B (2 * i) + B (2 * i + 1)) by omega, b2, b3]
    exact Nat.lt_of_le_of_lt (vd_le 8 _ (fun _ => 8) (fun i => by have := hq (2 * i); have := hq (2 * i + 1); omega)) (by decide)
  · rw [show n - ((n / 2) &&& 0x5555555555555555) = vd 4 32 (fun i => B (2 * i) + B (2 * i + 1)) by omega, b2, b3]
    exact f1
  · rw [f5, show List.range 64 = [0, 1, 2, 3, 4, 5, 6, 7, 8, 9, 10, 11, 12, 13, 14, 15, 16, 17, 18, 19, 20, 21, 22, 23, 24, 25, 26, 27, 28, 29, 30, 31, 32, 33, 34, 35, 36, 37, 38, 39, 40, 41, 42, 43, 44, 45, 46, 47, 48, 49, 50, 51, 52, 53, 54, 55, 56, 57, 58, 59, 60, 61, 62, 63] from rfl]
    simp only [Nat.reduceMul, Nat.reduceAdd, List.map_cons, List.map_nil, List.sum_cons, List.sum_nil]
    omega
def nB (x : Int64) : Nat := x.toBitVec.toNat
theorem nB_lt (x : Int64) : nB x < 2 ^ 64 := x.toBitVec.isLt
def srk (k : Int32) (y : Int64) : Int64 := (Int64.toUInt64 y >>> ((Int32.toInt64 k).toUInt64 &&& Int64.toUInt64 63)).toInt64
theorem nB_sr {k : Nat} (h : k < 64) (y : Int64) : nB (srk (nI k) y) = nB y / 2 ^ k := by
  unfold srk nB
  rw [(sh_amt k h).2]
  show (Int64.toUInt64 y >>> UInt64.ofNat k).toBitVec.toNat = _
  rw [UInt64.toBitVec_shiftRight]
  have e : (UInt64.ofNat k).toBitVec % 64 = BitVec.ofNat 64 k := by
    revert k
    decide +kernel
  rw [e, BitVec.ushiftRight_eq', BitVec.toNat_ushiftRight, BitVec.toNat_ofNat, Nat.mod_eq_of_lt (by omega), Nat.shiftRight_eq_div_pow]
  rfl
theorem nB_and (x y : Int64) : nB (x &&& y) = nB x &&& nB y := by
  unfold nB
  rw [Int64.toBitVec_and, BitVec.toNat_and]
theorem nB_add {x y : Int64} (h : nB x + nB y < 2 ^ 64) : nB (x + y) = nB x + nB y := by
  unfold nB at *
  rw [Int64.toBitVec_add, BitVec.toNat_add, Nat.mod_eq_of_lt h]
theorem nB_sub {x y : Int64} (h : nB y ≤ nB x) : nB (x - y) = nB x - nB y := by
  unfold nB at *
  rw [Int64.toBitVec_sub, BitVec.toNat_sub_of_le (BitVec.le_def.mpr h)]
theorem low7 (f : Int64) : Int64.toInt32 f &&& (127 : Int32) = nI (nB f % 128) := by
  apply Int32.toBitVec_inj.mp
  apply BitVec.eq_of_toNat_eq
  rw [Int32.toBitVec_and]
  show ((f.toBitVec.signExtend 32) &&& 127#32).toNat = (BitVec.ofNat 32 (nB f % 128)).toNat
  rw [BitVec.toNat_and, BitVec.toNat_ofNat, BitVec.toNat_ofNat, BitVec.signExtend_eq_setWidth_of_le _ (by decide), BitVec.toNat_setWidth]
  show _ &&& (2 ^ 7 - 1) = _
  rw [Nat.and_two_pow_sub_one_eq_mod]
  unfold nB
  omega
theorem sum_count {f : Nat → Nat} {p : Nat → Bool} (h : ∀ i, f i = if p i then 1 else 0) : ∀ l : List Nat, (l.map f).sum = l.countP p := by
  intro l
  induction l with
  | nil => rfl
  | cons x l ih =>
    rw [List.map_cons, List.sum_cons, ih, List.countP_cons, h x]
    omega
/-- how many bits -/
def pcn (x : Int64) : Nat := (List.range 64).countP fun i => bt x i
def bk1 (x : Int64) : Int64 := x - (srk 1 x &&& (6148914691236517205 : Int64))
def bk2 (a : Int64) : Int64 := (a &&& (3689348814741910323 : Int64)) + (srk 2 a &&& (3689348814741910323 : Int64))
def bk3 (b : Int64) : Int64 := (b + srk 4 b) &&& (1085102592571150095 : Int64)
def bk4 (c : Int64) : Int64 := c + srk 8 c
def bk5 (c : Int64) : Int64 := c + srk 16 c
def bk6 (c : Int64) : Int64 := c + srk 32 c
theorem bitcount (x : Int64) : Int64.toInt32 (bk6 (bk5 (bk4 (bk3 (bk2 (bk1 x)))))) &&& (127 : Int32) = nI (pcn x) := by
  obtain ⟨a, b, c, d, e, f, h1, h2, h3, h4, h5, h6, h7, h8, h9, h10, h11⟩ := bc_nat (nB_lt x)
  have r1 : nB (bk1 x) = a := by
    have e1 : nB (srk 1 x &&& (6148914691236517205 : Int64)) = (nB x / 2) &&& 0x5555555555555555 := by
      rw [nB_and, show (1 : Int32) = nI 1 from rfl, nB_sr (by decide)]
      rfl
    unfold bk1
    rw [nB_sub (by rw [e1]; exact h2), e1]
    exact h1.symm
  have r2 : nB (bk2 (bk1 x)) = b := by
    have e1 : nB (srk 2 (bk1 x) &&& (3689348814741910323 : Int64)) = (a / 4) &&& 0x3333333333333333 := by
      rw [nB_and, show (2 : Int32) = nI 2 from rfl, nB_sr (by decide), r1]
      rfl
    have e2 : nB (bk1 x &&& (3689348814741910323 : Int64)) = a &&& 0x3333333333333333 := by
      rw [nB_and, r1]
      rfl
    unfold bk2
    rw [nB_add (by rw [e1, e2]; omega), e1, e2]
    exact h3.symm
  have r3 : nB (bk3 (bk2 (bk1 x))) = c := by
    have e1 : nB (srk 4 (bk2 (bk1 x))) = b / 16 := by
      rw [show (4 : Int32) = nI 4 from rfl, nB_sr (by decide), r2]
    unfold bk3
    rw [nB_and, nB_add (by rw [e1, r2]; omega), e1, r2]
    exact h5.symm
  have r4 : nB (bk4 (bk3 (bk2 (bk1 x)))) = d := by
    have e1 : nB (srk 8 (bk3 (bk2 (bk1 x)))) = c / 256 := by
      rw [show (8 : Int32) = nI 8 from rfl, nB_sr (by decide), r3]
    unfold bk4
    rw [nB_add (by rw [e1, r3]; omega), e1, r3]
    exact h7.symm
  have r5 : nB (bk5 (bk4 (bk3 (bk2 (bk1 x))))) = e := by
    have e1 : nB (srk 16 (bk4 (bk3 (bk2 (bk1 x))))) = d / 65536 := by
      rw [show (16 : Int32) = nI 16 from rfl, nB_sr (by decide), r4]
    unfold bk5
    rw [nB_add (by rw [e1, r4]; omega), e1, r4]
    exact h8.symm
  have r6 : nB (bk6 (bk5 (bk4 (bk3 (bk2 (bk1 x)))))) = f := by
    have e1 : nB (srk 32 (bk5 (bk4 (bk3 (bk2 (bk1 x)))))) = e / 4294967296 := by
      rw [show (32 : Int32) = nI 32 from rfl, nB_sr (by decide), r5]
    unfold bk6
    rw [nB_add (by rw [e1, r5]; omega), e1, r5]
    exact h9.symm
  rw [low7, r6, h11]
  unfold pcn
  rw [sum_count (p := fun i => bt x i)]
  intro i
  unfold bt
  rw [BitVec.getLsbD, Nat.testBit_eq_decide_div_mod_eq]
  show nB x / 2 ^ i % 2 = _
  unfold nB
  have : x.toBitVec.toNat / 2 ^ i % 2 < 2 := Nat.mod_lt _ (by decide)
  by_cases h : x.toBitVec.toNat / 2 ^ i % 2 = 1
  · rw [h]; rfl
  · rw [if_neg (by simpa using h)]
    omega
