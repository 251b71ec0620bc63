/-! Pure: what formulas look like, in the pieces that the class writes. -/
abbrev Ck : Type := List (List Nat)
def capC (c n : Nat) : Ck → Nat
  | [] => c
  | u :: P => capC (capN c (n + u.length)) (n + u.length) P
theorem capC_app : ∀ (P Q : Ck) (c n : Nat), capC c n (P ++ Q) = capC (capC c n P) (n + P.flatten.length) Q := by
  intro P
  induction P with
  | nil => intro Q c n; rfl
  | cons u P ih =>
    intro Q c n
    show capC (capN c (n + u.length)) (n + u.length) (P ++ Q) = capC (capC (capN c (n + u.length)) (n + u.length) P) (n + (u :: P).flatten.length) Q
    rw [ih, List.flatten_cons, List.length_append, Nat.add_assoc]
theorem capC_ge : ∀ (P : Ck) (c n : Nat), c ≤ capC c n P := by
  intro P
  induction P with
  | nil => intro c n; exact Nat.le_refl _
  | cons u P ih =>
    intro c n
    exact Nat.le_trans (capN_ge c (n + u.length)).1 (ih _ _)
/-- digits behind the point -/
def frd : Nat → Nat → Nat → List Nat
  | 0, _, _ => []
  | k + 1, s, z => (48 + z * 10 / s) :: frd k s (z * 10 % s)
def nuC (b d : Nat) : Ck := [dgl (dsz (d / 10 ^ b)) (d / 10 ^ b)] ++ (if b = 0 then [] else [46] :: (frd b (10 ^ b) (d % 10 ^ b)).map fun c => [c])
def dolC (b : Bool) : Ck := if b then [[36]] else []
def xA (x : Int32) : Bool := x.toNatClampNeg / 128 % 2 == 1
def xB (x : Int32) : Bool := x.toNatClampNeg / 256 % 2 == 1
def rfC (x : Int32) : Ck := if p_MO_lost x = 0 then dolC (xA x) ++ [[97 + rgcol x]] ++ dolC (xB x) ++ [dgl (dsz (rgrow x + 1)) (rgrow x + 1)] else [[126]]
def rgC (j : Nat) (a b : Int32) : Ck := [[64], ps_ob j] ++ rfC a ++ [[58]] ++ rfC b ++ [[41]]
def brC (need : Nat) (p : Ck × Nat) : Ck := if p.2 < need then [40] :: (p.1 ++ [[41]]) else p.1
def rul (s : Int32) : Nat := if s = 38 ∨ s = 124 then 0 else if s = 42 ∨ s = 47 then 3 else if s = 43 ∨ s = 45 then 2 else 1
def tx1 (x : It) (st : List (Ck × Nat)) : List (Ck × Nat) :=
  if x.1 = 0 then (nuC x.2.1.toNatClampNeg x.2.2.2.toBitVec.toNat, 5) :: st
  else if x.1 = 1 then (rfC x.2.1, 5) :: st
  else if x.1 ≤ 6 then (rgC (x.1.toNatClampNeg - 2) x.2.1 x.2.2.1, 5) :: st
  else if x.1 = 9 then (match st with | c :: b :: a :: t => ([64] :: ps_ob 7 :: (a.1 ++ [[44]] ++ b.1 ++ [[44]] ++ c.1 ++ [[41]]), 5) :: t | _ => st)
  else if x.1 = 7 ∨ x.1 = 8 then (match st with | a :: t => ([64] :: ps_ob (x.1.toNatClampNeg - 2) :: (a.1 ++ [[41]]), 5) :: t | _ => st)
  else if x.1 = 10 then (match st with | a :: t => ([45] :: brC 5 a, 4) :: t | _ => st)
  else if x.1 = 33 then (match st with | a :: t => ([33] :: brC 2 a, 1) :: t | _ => st)
  else (match st with | b :: a :: t => (brC (if rul x.1 = 1 then 2 else rul x.1) a ++ [[x.1.toNatClampNeg]] ++ brC (rul x.1 + 1) b, rul x.1) :: t | _ => st)
def txs (L : List It) (st : List (Ck × Nat)) : List (Ck × Nat) := L.foldl (fun s x => tx1 x s) st
theorem txs_app (L1 L2 : List It) (st : List (Ck × Nat)) : txs (L1 ++ L2) st = txs L2 (txs L1 st) := List.foldl_append
theorem txs_one (x : It) (st : List (Ck × Nat)) : txs [x] st = tx1 x st := rfl
theorem bud {c c1 c2 mc : Nat} (h : lev c - lev c2 ≤ mc) (h1 : c ≤ c1) (h2 : c1 ≤ c2) : lev c - lev c1 ≤ mc ∧ lev c1 - lev c2 ≤ mc - (lev c - lev c1) := by
  have a := lev_le h1
  have b := lev_le h2
  omega
theorem bud2 {c c1 c2 ms : Nat} (h : 802 * (lev c - lev c2) ≤ ms) (h1 : c ≤ c1) (h2 : c1 ≤ c2) : 802 * (lev c - lev c1) ≤ ms ∧ 802 * (lev c1 - lev c2) ≤ ms - 802 * (lev c - lev c1) := by
  have a := lev_le h1
  have b := lev_le h2
  omega
