/-! Pure: what formulas are worth. none: BAD. -/
abbrev Vl : Type := Option UInt64
def ck (d : UInt64) : Vl := if p_MO_tooGreat d = 0 then some d else none
theorem ck_ok {d : UInt64} (h : nb d) : ck d = some d := by
  unfold ck
  rw [tg_ok h, if_pos rfl]
theorem ck_bad {d : UInt64} (h : nn d) (hb : ¬ nb d) : ck d = none := by
  unfold ck
  rw [tg_bad h hb, if_neg (by decide)]
theorem ck_nb {d x : UInt64} (h : nn d) (e : ck d = some x) : nb x ∧ x = d := by
  by_cases hb : nb d
  · rw [ck_ok hb] at e
    cases e
    exact ⟨hb, rfl⟩
  · rw [ck_bad h hb] at e
    cases e
def vrel (d : UInt64) (v : Vl) : Prop := (nb d ∧ v = some d) ∨ (nn d ∧ ¬ nb d ∧ v = none)
theorem vrel.ck {d : UInt64} (h : nn d) : vrel d (ck d) := by
  by_cases hb : nb d
  · exact Or.inl ⟨hb, ck_ok hb⟩
  · exact Or.inr ⟨h, hb, ck_bad h hb⟩
theorem vrel.nn {d : UInt64} {v : Vl} (h : vrel d v) : nn d := by
  rcases h with h | h
  · exact h.1.nn
  · exact h.1
theorem vrel.bad : vrel 4836865999795912704 none := Or.inr ⟨nn_bad, nb_bad, rfl⟩
theorem vrel.ok {d : UInt64} (h : nb d) : vrel d (some d) := Or.inl ⟨h, rfl⟩
theorem isBad_v {E : fs_E} {h : fs_Hp} {d : UInt64} {v : Vl} {Post : fs_Ps} (hd : vrel d v) (k0 : nb d → v = some d → Post (.inl (some (.int 0))) h) (k1 : v = none → Post (.inl (some (.int 1))) h) : w_SH_isBad E h d Post := by
  rcases hd with ⟨a, b⟩ | ⟨a, b, c⟩
  · exact isBad_ok a (k0 a b)
  · exact isBad_bad a b (k1 c)
/-- comparisons and the like -/
def pvh (s : Int32) (x1 x2 : UInt64) : Int32 := (if s = 35 then (if (Op.cmpValue (FP.dcmp x1 x2) .l) = 0 then 0 else 1) else (if s = 38 then (if (Op.cmpValue (FP.dcmp x1 FP.dconst0) .l) = 0 then 0 else (if (Op.cmpValue (FP.dcmp x2 FP.dconst0) .l) = 0 then 0 else 1)) else (if s = 60 then (if 0 ≤ (Op.cmpValue (FP.dcmp x1 x2) .g) then 0 else 1) else (if s = 61 then (if (Op.cmpValue (FP.dcmp x1 x2) .l) = 0 then 1 else 0) else (if s = 62 then (if (Op.cmpValue (FP.dcmp x1 x2) .l) ≤ 0 then 0 else 1) else (if (Op.cmpValue (FP.dcmp x1 FP.dconst0) .l) = 0 then (if (Op.cmpValue (FP.dcmp x2 FP.dconst0) .l) = 0 then 0 else 1) else 1))))))
def pv2 (s : Int32) (x y : UInt64) : Vl := if s = 42 then ck (FP.dmul x y) else if s = 43 then ck (FP.dadd x y) else if s = 45 then ck (FP.dsub x y) else if s = 47 then (if Op.cmpValue (FP.dcmp y FP.dconst0) .l = 0 then none else ck (FP.ddiv x y)) else some (p_MO_truth (pvh s x y))
/-- one number: !, -, abs, int -/
def pv1 (s : Int32) (x : UInt64) : UInt64 := if s = 33 then (if Op.cmpValue (FP.dcmp x FP.dconst0) .l = 0 then FP.dconst1 else FP.dconst0) else if s = 10 then FP.dneg x else if s = 7 then (if 0 ≤ Op.cmpValue (FP.dcmp x FP.dconst0) .g then x else FP.dneg x) else FP.l2d (FP.d2l x)
theorem nb_pv1 {s : Int32} {x : UInt64} (h : nb x) : nb (pv1 s x) := by
  unfold pv1
  repeat' split
  · exact nb_1
  · exact nb_0
  · exact nb_neg h
  · exact h
  · exact nb_neg h
  · exact nb_trunc h
theorem nb_truth (x : Int32) : nb (p_MO_truth x) := by
  unfold p_MO_truth
  split
  · exact nb_0
  · exact nb_1
theorem nb_pv2 {s : Int32} {x y z : UInt64} (hx : nb x) (hy : nb y) (e : pv2 s x y = some z) : nb z := by
  unfold pv2 at e
  split at e
  · exact (ck_nb (nn_mul hx hy) e).1
  · split at e
    · exact (ck_nb (nn_add hx hy) e).1
    · split at e
      · exact (ck_nb (nn_sub hx hy) e).1
      · split at e
        · split at e
          · cases e
          · next hz => exact (ck_nb (nn_div hx hy hz) e).1
        · cases e
          exact nb_truth _
/-- the VALUES of a range's cells, in their order -/
def rowsV (cv : Nat → Nat → Option Vl) (c : Nat) : Nat → Nat → List Vl
  | 0, _ => []
  | k + 1, r => (match cv c r with | none => rowsV cv c k (r + 1) | some v => v :: rowsV cv c k (r + 1))
def colsV (cv : Nat → Nat → Option Vl) (rk r0 : Nat) : Nat → Nat → List Vl
  | 0, _ => []
  | k + 1, c => rowsV cv c rk r0 ++ colsV cv rk r0 k (c + 1)
def sumV : List Vl → UInt64 → Vl
  | [], s => some s
  | none :: _, _ => none
  | some d :: l, s => if p_MO_tooGreat (FP.dadd s d) = 0 then sumV l (FP.dadd s d) else none
def btr (mn : Bool) (d b : UInt64) : Bool := if mn then !decide (0 ≤ Op.cmpValue (FP.dcmp d b) .g) else !decide (Op.cmpValue (FP.dcmp d b) .l ≤ 0)
def extV (mn : Bool) : List Vl → Option UInt64 → Vl
  | [], b => b
  | none :: _, _ => none
  | some d :: l, none => extV mn l (some d)
  | some d :: l, some b => extV mn l (some (if btr mn d b then d else b))
def rgcol (x : Int32) : Nat := (p_MO_column x).toNatClampNeg
def rgrow (x : Int32) : Nat := (p_MO_row x).toNatClampNeg
def rgV (cv : Nat → Nat → Option Vl) (a b : Int32) : List Vl := colsV cv (max (rgrow a) (rgrow b) + 1 - min (rgrow a) (rgrow b)) (min (rgrow a) (rgrow b)) (max (rgcol a) (rgcol b) + 1 - min (rgcol a) (rgcol b)) (min (rgcol a) (rgcol b))
def rgW (w : Int32) (l : List Vl) : Vl := if w = 5 then some (FP.i2d (nI l.length)) else if w = 2 then sumV l FP.dconst0 else if w = 6 then (if l.length = 0 then none else (sumV l FP.dconst0).map fun s => FP.ddiv s (FP.i2d (nI l.length))) else extV (w == 3) l none
def rgv (cv : Nat → Nat → Option Vl) (w a b : Int32) : Vl := if p_MO_lost a = 0 then (if p_MO_lost b = 0 then rgW w (rgV cv a b) else none) else none
def cvd (o : Option Vl) : Vl := match o with | none => some FP.dconst0 | some v => v
def pv2o (s : Int32) (a b : Vl) : Vl := match a, b with | some u, some v => pv2 s u v | _, _ => none
def rfv (cv : Nat → Nat → Option Vl) (x : Int32) : Vl := if p_MO_lost x = 0 then cvd (cv (rgcol x) (rgrow x)) else none
def ifv (a b c : Vl) : Vl := match a with | none => none | some d => if Op.cmpValue (FP.dcmp d FP.dconst0) .l = 0 then c else b
def nuv (b : Int32) (d : Int64) : UInt64 := FP.ddiv (FP.l2d d) (pw10 b.toNatClampNeg)
def ev1 (cv : Nat → Nat → Option Vl) (x : It) (st : List Vl) : List Vl :=
  if x.1 = 0 then some (nuv x.2.1 x.2.2.2) :: st
  else if x.1 = 1 then rfv cv x.2.1 :: st
  else if x.1 ≤ 6 then rgv cv x.1 x.2.1 x.2.2.1 :: st
  else if x.1 = 9 then (match st with | c :: b :: a :: t => ifv a b c :: t | _ => st)
  else if x.1 = 33 ∨ x.1 = 10 ∨ x.1 = 7 ∨ x.1 = 8 then (match st with | a :: t => a.map (pv1 x.1) :: t | _ => st)
  else (match st with | b :: a :: t => pv2o x.1 a b :: t | _ => st)
def evs (cv : Nat → Nat → Option Vl) (L : List It) (st : List Vl) : List Vl := L.foldl (fun s x => ev1 cv x s) st
theorem evs_app (cv : Nat → Nat → Option Vl) (L1 L2 : List It) (st : List Vl) : evs cv (L1 ++ L2) st = evs cv L2 (evs cv L1 st) := List.foldl_append
theorem evs_one (cv : Nat → Nat → Option Vl) (x : It) (st : List Vl) : evs cv [x] st = ev1 cv x st := rfl
/-- all VALUES are in bounds -/
def cvok (cv : Nat → Nat → Option Vl) : Prop := ∀ c r d, cv c r = some (some d) → nb d
theorem rowsV_ok {cv : Nat → Nat → Option Vl} (h : cvok cv) (c : Nat) : ∀ k r d, some d ∈ rowsV cv c k r → nb d := by
  intro k
  induction k with
  | zero => intro r d hd; cases hd
  | succ k ih =>
    intro r d hd
    rw [rowsV] at hd
    cases hc : cv c r with
    | none => rw [hc] at hd; exact ih _ _ hd
    | some v =>
      rw [hc] at hd
      rcases List.mem_cons.mp hd with e | e
      · exact h c r d (by rw [hc, e])
      · exact ih _ _ e
theorem colsV_ok {cv : Nat → Nat → Option Vl} (h : cvok cv) (rk r0 : Nat) : ∀ k c d, some d ∈ colsV cv rk r0 k c → nb d := by
  intro k
  induction k with
  | zero => intro r d hd; cases hd
  | succ k ih =>
    intro c d hd
    rw [colsV] at hd
    rcases List.mem_append.mp hd with e | e
    · exact rowsV_ok h c rk r0 d e
    · exact ih _ _ e
theorem rowsV_len (cv : Nat → Nat → Option Vl) (c : Nat) : ∀ k r, (rowsV cv c k r).length ≤ k := by
  intro k
  induction k with
  | zero => intro r; exact Nat.le_refl _
  | succ k ih =>
    intro r
    rw [rowsV]
    cases cv c r with
    | none => exact Nat.le_succ_of_le (ih _)
    | some v => exact Nat.succ_le_succ (ih _)
theorem colsV_len (cv : Nat → Nat → Option Vl) (rk r0 : Nat) : ∀ k c, (colsV cv rk r0 k c).length ≤ rk * k := by
  intro k
  induction k with
  | zero => intro r; exact Nat.zero_le _
  | succ k ih =>
    intro c
    rw [colsV, List.length_append, Nat.mul_succ]
    have h1 := rowsV_len cv c rk r0
    have h2 := ih (c + 1)
    omega
theorem sumV_ok : ∀ (l : List Vl) (s x : UInt64), nb s → (∀ d, some d ∈ l → nb d) → sumV l s = some x → nb x := by
  intro l
  induction l with
  | nil => intro s x hs _ e; cases e; exact hs
  | cons v l ih =>
    intro s x hs hl e
    cases v with
    | none => cases e
    | some d =>
      rw [sumV] at e
      split at e
      · next ht =>
        refine ih _ x ?_ (fun d hd => hl d (List.mem_cons_of_mem _ hd)) e
        have h1 := nn_add hs (hl d List.mem_cons_self)
        exact Classical.byContradiction fun hb => by
          rw [tg_bad h1 hb] at ht
          exact absurd ht (by decide)
      · cases e
theorem extV_ok (mn : Bool) : ∀ (l : List Vl) (b : Option UInt64) (x : UInt64), (∀ d, b = some d → nb d) → (∀ d, some d ∈ l → nb d) → extV mn l b = some x → nb x := by
  intro l
  induction l with
  | nil => intro b x hb _ e; exact hb x e
  | cons v l ih =>
    intro b x hb hl e
    cases v with
    | none => cases e
    | some d =>
      have hd := hl d List.mem_cons_self
      cases b with
      | none => exact ih (some d) x (fun z hz => by cases hz; exact hd) (fun d hd => hl d (List.mem_cons_of_mem _ hd)) e
      | some b =>
        refine ih (some (if btr mn d b then d else b)) x (fun z hz => ?_) (fun d hd => hl d (List.mem_cons_of_mem _ hd)) e
        cases hz
        split
        · exact hd
        · exact hb b rfl
theorem rg80 (x : Int32) : rgcol x < 8 ∧ rgrow x < 16 := by
  refine ⟨?_, ?_⟩
  · unfold rgcol p_MO_column
    have h : ∀ y : BitVec 32, (Int32.ofBitVec (y &&& 7#32)).toNatClampNeg < 8 := by
      intro y
      have : (y &&& 7#32).toNat ≤ 7 := by
        rw [BitVec.toNat_and]
        exact Nat.and_le_right
      show (Int32.toInt _).toNat < 8
      have e : (Int32.ofBitVec (y &&& 7#32)).toInt = (y &&& 7#32).toInt := rfl
      rw [e, BitVec.toInt_eq_toNat_of_lt (by omega)]
      omega
    exact h x.toBitVec
  · unfold rgrow p_MO_row
    have h : ∀ y : BitVec 32, (Int32.ofBitVec (y &&& 15#32)).toNatClampNeg < 16 := by
      intro y
      have : (y &&& 15#32).toNat ≤ 15 := by
        rw [BitVec.toNat_and]
        exact Nat.and_le_right
      show (Int32.toInt _).toNat < 16
      have e : (Int32.ofBitVec (y &&& 15#32)).toInt = (y &&& 15#32).toInt := rfl
      rw [e, BitVec.toInt_eq_toNat_of_lt (by omega)]
      omega
    exact h (x >>> (3 &&& 31)).toBitVec
theorem rgV_len (cv : Nat → Nat → Option Vl) (a b : Int32) : (rgV cv a b).length ≤ 128 := by
  unfold rgV
  have h1 := rg80 a
  have h2 := rg80 b
  refine Nat.le_trans (colsV_len _ _ _ _ _) ?_
  have e1 : max (rgrow a) (rgrow b) + 1 - min (rgrow a) (rgrow b) ≤ 16 := by omega
  have e2 : max (rgcol a) (rgcol b) + 1 - min (rgcol a) (rgcol b) ≤ 8 := by omega
  exact Nat.mul_le_mul e1 e2
theorem rgW_ok {w : Int32} {l : List Vl} (hl : ∀ d, some d ∈ l → nb d) (hn : l.length ≤ 1000) {x : UInt64} (e : rgW w l = some x) : nb x := by
  unfold rgW at e
  split at e
  · cases e
    exact nb_i2d hn
  · split at e
    · exact sumV_ok l _ x nb_0 hl e
    · split at e
      · split at e
        · cases e
        · next h0 =>
          obtain ⟨s, e1, e2⟩ := Option.map_eq_some_iff.mp e
          rw [← e2]
          exact nb_avg (sumV_ok l _ s nb_0 hl e1) (by omega) hn
      · exact extV_ok _ l none x (fun z hz => by cases hz) hl e
theorem rgv_ok {cv : Nat → Nat → Option Vl} (h : cvok cv) {w a b : Int32} {x : UInt64} (e : rgv cv w a b = some x) : nb x := by
  unfold rgv at e
  split at e
  · split at e
    · exact rgW_ok (fun d hd => colsV_ok h _ _ _ _ d hd) (Nat.le_trans (rgV_len cv a b) (by decide)) e
    · cases e
  · cases e
theorem rfv_ok {cv : Nat → Nat → Option Vl} (h : cvok cv) {a : Int32} {x : UInt64} (e : rfv cv a = some x) : nb x := by
  unfold rfv at e
  split at e
  · cases hc : cv (rgcol a) (rgrow a) with
    | none => rw [hc] at e; cases e; exact nb_0
    | some v => rw [hc] at e; exact h _ _ x (by rw [hc]; exact congrArg some e)
  · cases e
