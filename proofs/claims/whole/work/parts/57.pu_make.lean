/-! Pure: the makers of parts. -/
theorem fs_kv_of {K : fs_Hp → Prop} {X : String → fs_Hp → Prop} {h : fs_Hp} (hk : K h) : fs_kv K X (.inl none) h := hk
theorem fs_ki_of {K : Int32 → fs_Hp → Prop} {X : String → fs_Hp → Prop} {h : fs_Hp} {x : Int32} (hk : K x h) : fs_ki K X (.inl (some (.int x))) h := hk
theorem fs_kl_of {K : Int64 → fs_Hp → Prop} {X : String → fs_Hp → Prop} {h : fs_Hp} {x : Int64} (hk : K x h) : fs_kl K X (.inl (some (.long x))) h := hk
theorem fs_kd_of {K : UInt64 → fs_Hp → Prop} {X : String → fs_Hp → Prop} {h : fs_Hp} {x : UInt64} (hk : K x h) : fs_kd K X (.inl (some (.double x))) h := hk
theorem fs_kr_of {K : Nat → fs_Hp → Prop} {X : String → fs_Hp → Prop} {h : fs_Hp} {x : Nat} (hk : K x h) : fs_kr K X (.inl (some (.ref x))) h := hk
theorem fs_koN {N : fs_Hp → Prop} {K : Nat → fs_Hp → Prop} {X : String → fs_Hp → Prop} {h : fs_Hp} (hk : N h) : fs_ko N K X (.inl (some .null)) h := hk
theorem fs_koS {N : fs_Hp → Prop} {K : Nat → fs_Hp → Prop} {X : String → fs_Hp → Prop} {h : fs_Hp} {x : Nat} (hk : K x h) : fs_ko N K X (.inl (some (.ref x))) h := hk
theorem fs_up_at {h : fs_Hp} {a q : Nat} {e : va_E} {r : Option va_E} (hn : q ≠ a) (hr : h q = r) : fs_up h a e q = r := (fs_up_ne hn).trans hr
theorem vp_nar0 : Int32.toNatClampNeg 0 = 0 := by decide
theorem vp_nar1 : Int32.toNatClampNeg 1 = 1 := by decide
theorem vp_nar2 : Int32.toNatClampNeg 2 = 2 := by decide
theorem vp_nar3 : Int32.toNatClampNeg 3 = 3 := by decide
/-- the part's inner array is set -/
theorem mk_PT {E : fs_E} {h : fs_Hp} {a i c : Nat} {fs : List Value} {Post : fs_Ps} (ha : h a = some (.inr (c, fs))) (hc : 4 ≤ c ∧ c ≤ 9) (hl : fs_pi c < fs.length) (K : Post (.inl none) (fs_up h a (.inr (c, fs.set (fs_pi c) (.ref i))))) : w_PT_init E h a i Post := by
  unfold w_PT_init fs_pwP
  rw [ha]
  exact ⟨hc, hl, K⟩
theorem mk_NU {E : fs_E} {h : fs_Hp} {a mc ms : Nat} {d : Int64} {b : Int32} {Post : fs_Ps} (ha : h a = some (.inr (4, [.long 0, .int 0, .null]))) (hm : 1 ≤ mc)
    (K : ∀ (i : Nat) (h' : fs_Hp), h i = none → i ≠ a → h' a = some (.inr (4, [.long d, .int b, .ref i])) → tr_in E h' i 0 (fun _ => none) → (∀ q, q ≠ a → q ≠ i → h' q = h q) → Post (.inl none) h') : w_NU_init mc ms E h a d b Post := by
  unfold w_NU_init
  refine ⟨by decide, by decide, hm, by rw [vp_nar0]; omega, fun i hi => ?_⟩
  rw [vp_nar0]
  have hne : i ≠ a := fun z => by rw [z, ha] at hi; cases hi
  refine mk_PT (fs_up_at (Ne.symm hne) ha) (by omega) (Nat.le_of_ble_eq_true rfl) ?_
  refine fs_kv_of ?_
  refine fs_pw_of fs_up_self (Nat.le_of_ble_eq_true rfl) (fs_pw_of fs_up_self (Nat.le_of_ble_eq_true rfl) ?_)
  refine K i _ hi hne fs_up_self ?_ (fun q h1 h2 => ?_)
  · exact fs_up_at hne (fs_up_at hne (fs_up_at hne fs_up_self))
  · rw [fs_up_ne h1, fs_up_ne h1, fs_up_ne h1, fs_up_ne h2]
theorem mk_RE {E : fs_E} {h : fs_Hp} {a mc ms A B : Nat} {c w : Int32} {Post : fs_Ps} (ha : h a = some (.inr (5, [.int 0, .int 0, .int 0, .int 0, .int 0, .null]))) (hm : 1 ≤ mc) (hA : A < 2) (hB : B < 2)
    (K : ∀ (i : Nat) (h' : fs_Hp), h i = none → i ≠ a → h' a = some (.inr (5, [.int (nI A), .int (nI B), .int c, .int w, .int 0, .ref i])) → tr_in E h' i 0 (fun _ => none) → (∀ q, q ≠ a → q ≠ i → h' q = h q) → Post (.inl none) h') : w_RE_init mc ms E h a (nI A) c (nI B) w Post := by
  have hb : ∀ X : Nat, X < 2 → narrow .boolean (.int (nI X)) = .int (nI X) ∧ fits .boolean (.int (nI X)) = true := by decide
  unfold w_RE_init
  refine ⟨by decide, by decide, hm, by rw [vp_nar0]; omega, fun i hi => ?_⟩
  rw [vp_nar0]
  have hne : i ≠ a := fun z => by rw [z, ha] at hi; cases hi
  refine mk_PT (fs_up_at (Ne.symm hne) ha) (by omega) (Nat.le_of_ble_eq_true rfl) ?_
  refine ⟨(hb A hA).1, (hb A hA).2, fs_pw_of fs_up_self (Nat.le_of_ble_eq_true rfl) (fs_pw_of fs_up_self (Nat.le_of_ble_eq_true rfl) ⟨(hb B hB).1, (hb B hB).2, fs_pw_of fs_up_self (Nat.le_of_ble_eq_true rfl) (fs_pw_of fs_up_self (Nat.le_of_ble_eq_true rfl) ?_)⟩)⟩
  refine K i _ hi hne fs_up_self ?_ (fun q h1 h2 => ?_)
  · exact fs_up_at hne (fs_up_at hne (fs_up_at hne (fs_up_at hne (fs_up_at hne fs_up_self))))
  · rw [fs_up_ne h1, fs_up_ne h1, fs_up_ne h1, fs_up_ne h1, fs_up_ne h1, fs_up_ne h2]
theorem tr_char {c : Nat} (h : c < 128) : narrow .char (.int (nI c)) = .int (nI c) ∧ fits .char (.int (nI c)) = true := pk_charN (by omega)
theorem mk_SI {E : fs_E} {h : fs_Hp} {a q mc ms : Nat} {s : Int32} {Post : fs_Ps} (ha : h a = some (.inr (6, [.int 0, .null]))) (hm : 1 ≤ mc) (hs : 1 ≤ ms) (hq : fs_isP h q) (hc : narrow .char (.int s) = .int s ∧ fits .char (.int s) = true)
    (K : ∀ (i : Nat) (g : Nat → Option Nat) (h' : fs_Hp), h i = none → i ≠ a → h' a = some (.inr (6, [.int s, .ref i])) → tr_in E h' i 1 g → g 0 = some q → (∀ q, q ≠ a → q ≠ i → h' q = h q) → Post (.inl none) h') : w_SI_init mc ms E h a s q Post := by
  unfold w_SI_init
  refine ⟨by decide, by decide, hm, by rw [vp_nar1]; omega, fun i hi => ?_⟩
  rw [vp_nar1]
  have hne : i ≠ a := fun z => by rw [z, ha] at hi; cases hi
  have hqi : q ≠ i := fun z => by
    obtain ⟨c, fs, e, -⟩ := fs_isP_some hq
    rw [z, hi] at e
    cases e
  have hq2 : ∀ e, fs_isP (fs_up h i e) q := fun e => by
    obtain ⟨c, fs, e1, e2⟩ := fs_isP_some hq
    exact fs_isP_of (fs_up_at hqi e1) e2
  refine ⟨hq2 _, fs_sq_of fs_up_self (show vp_in (nI 0) 1 from vp_in_nI (by omega) (by omega)) ?_⟩
  rw [vp_nar0]
  refine mk_PT (fs_up_at (Ne.symm hne) (fs_up_at (Ne.symm hne) ha)) (by omega) (Nat.le_of_ble_eq_true rfl) ?_
  refine ⟨hc.1, hc.2, fs_pw_of fs_up_self (Nat.le_of_ble_eq_true rfl) ?_⟩
  refine K i (va_up (fun _ => none) 0 (some q)) _ hi hne fs_up_self ?_ (by simp [va_up]) (fun q h1 h2 => ?_)
  · exact fs_up_at hne (fs_up_at hne fs_up_self)
  · rw [fs_up_ne h1, fs_up_ne h1, fs_up_ne h2, fs_up_ne h2]
theorem mk_PA {E : fs_E} {h : fs_Hp} {a q1 q2 mc ms : Nat} {s : Int32} {Post : fs_Ps} (ha : h a = some (.inr (7, [.int 0, .null]))) (hm : 1 ≤ mc) (hs : 2 ≤ ms) (hq1 : fs_isP h q1) (hq2 : fs_isP h q2) (hc : narrow .char (.int s) = .int s ∧ fits .char (.int s) = true)
    (K : ∀ (i : Nat) (g : Nat → Option Nat) (h' : fs_Hp), h i = none → i ≠ a → h' a = some (.inr (7, [.int s, .ref i])) → tr_in E h' i 2 g → g 0 = some q1 → g 1 = some q2 → (∀ q, q ≠ a → q ≠ i → h' q = h q) → Post (.inl none) h') : w_PA_init mc ms E h a s q1 q2 Post := by
  unfold w_PA_init
  refine ⟨by decide, by decide, hm, by rw [vp_nar2]; omega, fun i hi => ?_⟩
  rw [vp_nar2]
  have hne : i ≠ a := fun z => by rw [z, ha] at hi; cases hi
  have hq : ∀ q, fs_isP h q → q ≠ i ∧ ∀ e, fs_isP (fs_up h i e) q := fun q hq => by
    obtain ⟨c, fs, e1, e2⟩ := fs_isP_some hq
    have : q ≠ i := fun z => by rw [z, hi] at e1; cases e1
    exact ⟨this, fun e => fs_isP_of (fs_up_at this e1) e2⟩
  refine ⟨(hq q1 hq1).2 _, fs_sq_of fs_up_self (show vp_in (nI 0) 2 from vp_in_nI (by omega) (by omega)) ?_⟩
  refine ⟨?_, fs_sq_of fs_up_self (show vp_in (nI 1) 2 from vp_in_nI (by omega) (by omega)) ?_⟩
  · obtain ⟨c, fs, e1, e2⟩ := fs_isP_some hq2
    exact fs_isP_of (fs_up_at (hq q2 hq2).1 (fs_up_at (hq q2 hq2).1 e1)) e2
  rw [vp_nar0, vp_nar1]
  refine mk_PT (fs_up_at (Ne.symm hne) (fs_up_at (Ne.symm hne) (fs_up_at (Ne.symm hne) ha))) (by omega) (Nat.le_of_ble_eq_true rfl) ?_
  refine ⟨hc.1, hc.2, fs_pw_of fs_up_self (Nat.le_of_ble_eq_true rfl) ?_⟩
  refine K i (va_up (va_up (fun _ => none) 0 (some q1)) 1 (some q2)) _ hi hne fs_up_self ?_ (by simp [va_up]) (by simp [va_up]) (fun q h1 h2 => ?_)
  · exact fs_up_at hne (fs_up_at hne fs_up_self)
  · rw [fs_up_ne h1, fs_up_ne h1, fs_up_ne h2, fs_up_ne h2, fs_up_ne h2]
theorem mk_OV {E : fs_E} {h : fs_Hp} {a j q1 q2 mc ms : Nat} {Post : fs_Ps} (ha : h a = some (.inr (9, [.null, .null, .null, .null]))) (hm : 1 ≤ mc) (hs : 2 ≤ ms) (hq1 : fs_isP h q1) (hq2 : fs_isP h q2)
    (K : ∀ (i : Nat) (g : Nat → Option Nat) (h' : fs_Hp), h i = none → i ≠ a → h' a = some (.inr (9, [.ref j, .ref q1, .ref q2, .ref i])) → tr_in E h' i 2 g → g 0 = some q1 → g 1 = some q2 → (∀ q, q ≠ a → q ≠ i → h' q = h q) → Post (.inl none) h') : w_OV_init mc ms E h a j q1 q2 Post := by
  unfold w_OV_init
  refine ⟨by decide, by decide, hm, by rw [vp_nar2]; omega, fun i hi => ?_⟩
  rw [vp_nar2]
  have hne : i ≠ a := fun z => by rw [z, ha] at hi; cases hi
  have hq : ∀ q, fs_isP h q → q ≠ i ∧ ∀ e, fs_isP (fs_up h i e) q := fun q hq => by
    obtain ⟨c, fs, e1, e2⟩ := fs_isP_some hq
    have : q ≠ i := fun z => by rw [z, hi] at e1; cases e1
    exact ⟨this, fun e => fs_isP_of (fs_up_at this e1) e2⟩
  refine ⟨(hq q1 hq1).2 _, fs_sq_of fs_up_self (show vp_in (nI 0) 2 from vp_in_nI (by omega) (by omega)) ?_⟩
  refine ⟨?_, fs_sq_of fs_up_self (show vp_in (nI 1) 2 from vp_in_nI (by omega) (by omega)) ?_⟩
  · obtain ⟨c, fs, e1, e2⟩ := fs_isP_some hq2
    exact fs_isP_of (fs_up_at (hq q2 hq2).1 (fs_up_at (hq q2 hq2).1 e1)) e2
  rw [vp_nar0, vp_nar1]
  refine mk_PT (fs_up_at (Ne.symm hne) (fs_up_at (Ne.symm hne) (fs_up_at (Ne.symm hne) ha))) (by omega) (Nat.le_of_ble_eq_true rfl) ?_
  refine fs_kv_of ?_
  refine fs_pw_of fs_up_self (Nat.le_of_ble_eq_true rfl) (fs_pw_of fs_up_self (Nat.le_of_ble_eq_true rfl) (fs_pw_of fs_up_self (Nat.le_of_ble_eq_true rfl) ?_))
  refine K i (va_up (va_up (fun _ => none) 0 (some q1)) 1 (some q2)) _ hi hne fs_up_self ?_ (by simp [va_up]) (by simp [va_up]) (fun q h1 h2 => ?_)
  · exact fs_up_at hne (fs_up_at hne (fs_up_at hne (fs_up_at hne fs_up_self)))
  · rw [fs_up_ne h1, fs_up_ne h1, fs_up_ne h1, fs_up_ne h1, fs_up_ne h2, fs_up_ne h2, fs_up_ne h2]
theorem mk_CA {E : fs_E} {h : fs_Hp} {a i j : Nat} {Post : fs_Ps} (ha : h a = some (.inr (8, [.null, .null])))
    (K : Post (.inl none) (fs_up (fs_up h a (.inr (8, [.null, .ref i]))) a (.inr (8, [.ref j, .ref i])))) : w_CA_init E h a j i Post := by
  unfold w_CA_init
  refine mk_PT ha (by omega) (Nat.le_of_ble_eq_true rfl) ?_
  exact fs_pw_of fs_up_self (Nat.le_of_ble_eq_true rfl) K
