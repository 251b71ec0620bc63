/-! Pure: what formulas look like, in the pieces that the class writes. -/
abbrev Ck : Type := List (List Nat)
def capC (c n : Nat) : Ck → Nat
  | [] => c
  | u :: P => capC (capN c (n + u.length)) (n + u.length) P
theorem capC_app : ∀ (P Q : Ck) (c n : Nat), capC c n (P ++ Q) = capC (capC c n P) (n + P.flatten.length) Q := by
  intro P
  induction P with
  | nil => intro Q c n; rfl
  | cons u P ih =>
    intro Q c n
    show capC (capN c (n + u.length)) (n + u.length) (P ++ Q) = capC (capC (capN c (n + u.length)) (n + u.length) P) (n + (u :: P).flatten.length) Q
    rw [ih, List.flatten_cons, List.length_append, Nat.add_assoc]
theorem capC_ge : ∀ (P : Ck) (c n : Nat), c ≤ capC c n P := by
  intro P
  induction P with
  | nil => intro c n; exact Nat.le_refl _
  | cons u P ih =>
    intro c n
    exact Nat.le_trans (capN_ge c (n + u.length)).1 (ih _ _)
/-- digits behind the point -/
def frd : Nat → Nat → Nat → List Nat
  | 0, _, _ => []
  | k + 1, s, z => (48 + z * 10 / s) :: frd k s (z * 10 % s)
def nuC (b d : Nat) : Ck := [dgl (dsz (d / 10 ^ b)) (d / 10 ^ b)] ++ (if b = 0 then [] else [46] :: (frd b (10 ^ b) (d % 10 ^ b)).map fun c => [c])
def dolC (b : Bool) : Ck := if b then [[36]] else []
def xA (x : Int32) : Bool := x.toNatClampNeg / 128 % 2 == 1
def xB (x : Int32) : Bool := x.toNatClampNeg / 256 % 2 == 1
def rfC (x : Int32) : Ck := if p_MO_lost x = 0 then dolC (xA x) ++ [[97 + rgcol x]] ++ dolC (xB x) ++ [dgl (dsz (rgrow x + 1)) (rgrow x + 1)] else [[126]]
def rgC (j : Nat) (a b : Int32) : Ck := [[64], ps_ob j] ++ rfC a ++ [[58]] ++ rfC b ++ [[41]]
def brC (need : Nat) (p : Ck × Nat) : Ck := if p.2 < need then [40] :: (p.1 ++ [[41]]) else p.1
def rul (s : Int32) : Nat := if s = 38 ∨ s = 124 then 0 else if s = 42 ∨ s = 47 then 3 else if s = 43 ∨ s = 45 then 2 else 1
def tx1 (x : It) (st : List (Ck × Nat)) : List (Ck × Nat) :=
  if x.1 = 0 then (nuC x.2.1.toNatClampNeg x.2.2.2.toBitVec.toNat, 5) :: st
  else if x.1 = 1 then (rfC x.2.1, 5) :: st
  else if x.1 ≤ 6 then (rgC (x.1.toNatClampNeg - 2) x.2.1 x.2.2.1, 5) :: st
  else if x.1 = 9 then (match st with | c :: b :: a :: t => ([64] :: ps_ob 7 :: (a.1 ++ [[44]] ++ b.1 ++ [[44]] ++ c.1 ++ [[41]]), 5) :: t | _ => st)
  else if x.1 = 7 ∨ x.1 = 8 then (match st with | a :: t => ([64] :: ps_ob (x.1.toNatClampNeg - 2) :: (a.1 ++ [[41]]), 5) :: t | _ => st)
  else if x.1 = 10 then (match st with | a :: t => ([45] :: brC 5 a, 4) :: t | _ => st)
  else if x.1 = 33 then (match st with | a :: t => ([33] :: brC 2 a, 1) :: t | _ => st)
  else (match st with | b :: a :: t => (brC (if rul x.1 = 1 then 2 else rul x.1) a ++ [[x.1.toNatClampNeg]] ++ brC (rul x.1 + 1) b, rul x.1) :: t | _ => st)
def txs (L : List It) (st : List (Ck × Nat)) : List (Ck × Nat) := L.foldl (fun s x => tx1 x s) st
theorem txs_app (L1 L2 : List It) (st : List (Ck × Nat)) : txs (L1 ++ L2) st = txs L2 (txs L1 st) := List.foldl_append
theorem txs_one (x : It) (st : List (Ck × Nat)) : txs [x] st = tx1 x st := rfl
theorem bud {c c1 c2 mc : Nat} (h : lev c - lev c2 ≤ mc) (h1 : c ≤ c1) (h2 : c1 ≤ c2) : lev c - lev c1 ≤ mc ∧ lev c1 - lev c2 ≤ mc - (lev c - lev c1) := by
  have a := lev_le h1
  have b := lev_le h2
  omega
theorem bud2 {c c1 c2 ms : Nat} (h : 802 * (lev c - lev c2) ≤ ms) (h1 : c ≤ c1) (h2 : c1 ≤ c2) : 802 * (lev c - lev c1) ≤ ms ∧ 802 * (lev c1 - lev c2) ≤ ms - 802 * (lev c - lev c1) := by
  have a := lev_le h1
  have b := lev_le h2
  omega
/-- a call that writes the pieces P -/
def wrC (E : fs_E) (h : fs_Hp) (sb v cap : Nat) (t : List Nat) (P : Ck) (call : Nat → Nat → fs_Ps → Prop) (ok : fs_Hp → fs_Ps → Prop) : Prop := ∀ (mc ms : Nat) (Post : fs_Ps), lev cap - lev (capC cap t.length P) ≤ mc → 802 * (lev cap - lev (capC cap t.length P)) ≤ ms → (∀ h' v', sbR E h' sb v' (capC cap t.length P) (t ++ P.flatten) → gS sb v h h' → (v' = v ∨ h v' = none) → ok h' Post) → call mc ms Post
theorem capC_one (c n : Nat) (u : List Nat) : capC c n [u] = capN c (n + u.length) := rfl
theorem wr_chr {E : fs_E} {h : fs_Hp} {sb v cap c : Nat} {t : List Nat} (a : sbR E h sb v cap t) (hc8 : c < 128) (hm : t.length + 1 ≤ 400) (hc : 11 ≤ cap) : wrC E h sb v cap t [[c]] (fun mc ms Post => fs_isc h sb 11 ∧ w_SB_append_882 mc ms E h sb (nI c) Post) (fun h' Post => Post (.inl (some (.ref sb))) h') := by
  intro mc ms Post hmc hms K
  have hi : fs_isc h sb 11 := by
    obtain ⟨f, x2, h1, _⟩ := a
    exact fs_isc_of h1
  exact ⟨hi, sb_chr a hc8 hm hc hmc hms K⟩
theorem wr_str {E : fs_E} {h : fs_Hp} {sb v cap j : Nat} {t : List Nat} (a : sbR E h sb v cap t) (hj : j < 8) (hm : t.length + (ps_ob j).length ≤ 400) (hc : 11 ≤ cap) : wrC E h sb v cap t [ps_ob j] (fun mc ms Post => fs_isc h sb 11 ∧ w_SB_append_59e mc ms E h sb j Post) (fun h' Post => Post (.inl (some (.ref sb))) h') := by
  intro mc ms Post hmc hms K
  have hi : fs_isc h sb 11 := by
    obtain ⟨f, x2, h1, _⟩ := a
    exact fs_isc_of h1
  have e : [ps_ob j].flatten = ps_ob j := by rw [List.flatten_cons, List.flatten_nil, List.append_nil]
  rw [e] at K
  exact ⟨hi, sb_str a hj hm hc hmc hms K⟩
theorem wr_int {E : fs_E} {h : fs_Hp} {sb v cap w : Nat} {t : List Nat} (a : sbR E h sb v cap t) (hw : w < 1000000000) (hm : t.length + dsz w ≤ 400) (hc : 11 ≤ cap) : wrC E h sb v cap t [dgl (dsz w) w] (fun mc ms Post => fs_isc h sb 11 ∧ w_SB_append_7d3 mc ms E h sb (nI w) Post) (fun h' Post => Post (.inl (some (.ref sb))) h') := by
  intro mc ms Post hmc hms K
  have hi : fs_isc h sb 11 := by
    obtain ⟨f, x2, h1, _⟩ := a
    exact fs_isc_of h1
  have e : [dgl (dsz w) w].flatten = dgl (dsz w) w := by rw [List.flatten_cons, List.flatten_nil, List.append_nil]
  rw [e] at K
  rw [capC_one, dgl_len] at hmc hms K
  exact ⟨hi, sb_int a hw hm hc hmc hms K⟩
/-- one behind another -/
theorem wr_seq {E : fs_E} {h : fs_Hp} {sb v cap mc ms : Nat} {t : List Nat} {P Q : Ck} {call : Nat → Nat → fs_Ps → Prop} {ok : fs_Hp → fs_Ps → Prop} (w : wrC E h sb v cap t P call ok) (hmc : lev cap - lev (capC cap t.length (P ++ Q)) ≤ mc) (hms : 802 * (lev cap - lev (capC cap t.length (P ++ Q))) ≤ ms) {Post : Nat → Nat → fs_Ps} (K : ∀ h' v' c s, sbR E h' sb v' (capC cap t.length P) (t ++ P.flatten) → gS sb v h h' → (v' = v ∨ h v' = none) → lev (capC cap t.length P) - lev (capC (capC cap t.length P) (t ++ P.flatten).length Q) ≤ mc - c → 802 * (lev (capC cap t.length P) - lev (capC (capC cap t.length P) (t ++ P.flatten).length Q)) ≤ ms - s → ok h' (Post c s)) : ∃ c s : Nat, c ≤ mc ∧ s ≤ ms ∧ call c s (Post c s) := by
  rw [capC_app] at hmc hms
  have g1 := capC_ge P cap t.length
  have g2 := capC_ge Q (capC cap t.length P) (t.length + P.flatten.length)
  obtain ⟨b1, b2⟩ := bud hmc g1 g2
  obtain ⟨b3, b4⟩ := bud2 hms g1 g2
  refine ⟨_, _, b1, b3, w _ _ _ (Nat.le_refl _) (Nat.le_refl _) fun h' v' a1 a2 a3 => K h' v' _ _ a1 a2 a3 ?_ ?_⟩
  · rw [List.length_append]; exact b2
  · rw [List.length_append]; exact b4
theorem flat_len {P Q : Ck} {t : List Nat} {M : Nat} (h : t.length + (P ++ Q).flatten.length ≤ M) : t.length + P.flatten.length ≤ M ∧ (t ++ P.flatten).length + Q.flatten.length ≤ M := by
  rw [List.flatten_append, List.length_append] at h
  rw [List.length_append]
  omega
theorem flat_app (t : List Nat) (P Q : Ck) : (t ++ P.flatten) ++ Q.flatten = t ++ (P ++ Q).flatten := by rw [List.flatten_append, List.append_assoc]
theorem cap_app (c : Nat) (t : List Nat) (P Q : Ck) : capC (capC c t.length P) (t ++ P.flatten).length Q = capC c t.length (P ++ Q) := by rw [capC_app, List.length_append]
