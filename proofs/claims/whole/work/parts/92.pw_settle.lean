/-! Pure: the class's settling. -/
/-- what the class's arrays say of the cells -/
def cel (A : Shh) (bf : Nat → Int32) (vf : Nat → UInt64) : Prop := ∀ k, k < 80 → (A k = none → bf k = 0 ∧ vf k = FP.dconst0) ∧ (∀ d, A k = some (.inl d) → bf k = 1 ∧ vf k = d) ∧ (∀ L, A k = some (.inr L) → bf k = 1)
/-- only the arrays of VALUES, of order and of gathering change -/
def gW (va od ga : Nat) (h h' : fs_Hp) : Prop := ∀ q, q ≠ va → q ≠ od → q ≠ ga → h' q = h q
theorem gW.rf {va od ga : Nat} {h : fs_Hp} : gW va od ga h h := fun _ _ _ _ => rfl
theorem gW.trans {va od ga : Nat} {h h1 h2 : fs_Hp} (a : gW va od ga h h1) (b : gW va od ga h1 h2) : gW va od ga h h2 := fun q h1 h2 h3 => (b q h1 h2 h3).trans (a q h1 h2 h3)
theorem gx.va {va od ga : Nat} {h h' : fs_Hp} (a : gx va h h') : gW va od ga h h' := fun q h1 _ _ => a q h1
theorem gx.od {va od ga : Nat} {h h' : fs_Hp} (a : gx od h h') : gW va od ga h h' := fun q _ h2 _ => a q h2
theorem gx.ga {va od ga : Nat} {h h' : fs_Hp} (a : gx ga h h') : gW va od ga h h' := fun q _ _ h3 => a q h3
theorem ck_of {d : UInt64} {v : Vl} (h : vrel d v) : ck d = v := by
  rcases h with ⟨a, b⟩ | ⟨a, b, c⟩
  · rw [ck_ok a, b]
  · rw [ck_bad a b, c]
theorem ce_circ {E : fs_E} {A : Shh} {ce fil fo va re ga od k : Nat} {st : Int32} {bf : Nat → Int32} {vf : Nat → UInt64} {ff rf : Nat → Option Nat} {oo : Nat → Int32} {h : fs_Hp} {Post : fs_Ps} (hk : k < 80) (hc : csr E h ce fil fo va re ga od st bf vf ff rf oo) (hr : rset h rf (rea A)) (K : Post (.inl (some (.int (bi (rea A k k))))) h) : w_CE_isCircular E h ce (nI k) Post := by
  obtain ⟨s, s1, s2⟩ := hr k hk
  unfold w_CE_isCircular
  refine fs_gr_of hc.1.1 rfl (fs_aq_of hc.2.2.2.1 (nI_in hk (by omega)) ?_)
  rw [nI_clamp (by omega), s1]
  try dsimp only
  refine ⟨s2.isc, ks_has s2 hk (fs_ki_of ⟨?_, K⟩)⟩
  cases rea A k k <;> decide
/-- the formulas that are not circular, below k -/
def onl (A : Shh) (k : Nat) (O : List Nat) : Prop := (∀ j, j ∈ O ↔ (j < k ∧ (∃ L, A j = some (.inr L)) ∧ rea A j j = false)) ∧ O.length ≤ k
theorem wo_L4 {E : fs_E} {A : Shh} {ce fil fo va re ga od : Nat} {st : Int32} {bf : Nat → Int32} {ff rf : Nat → Option Nat} {Fs : Nat → List Nat} {K : Int32 → fs_Hp → Prop} {Post : fs_Ps} : ∀ (m k : Nat) (h : fs_Hp) (vf : Nat → UInt64) (oo : Nat → Int32) (O : List Nat), k + m = 80 → csr E h ce fil fo va re ga od st bf vf ff rf oo → trs E h A ff Fs → rset h rf (rea A) → onl A k O → O.Pairwise (fun a b => keyA A a ≤ keyA A b) → ord oo O → (∀ j, j < k → rea A j j = true → vf j = 4836865999795912704) → (∀ h' vf' oo' O', gW va od ga h h' → csr E h' ce fil fo va re ga od st bf vf' ff rf oo' → trs E h' A ff Fs → rset h' rf (rea A) → onl A 80 O' → O'.Pairwise (fun a b => keyA A a ≤ keyA A b) → ord oo' O' → (∀ j, j < 80 → rea A j j = true → vf' j = 4836865999795912704) → (∀ j, rea A j j = false → vf' j = vf j) → K (nI O'.length) h') → w_CE_workOut_L4 E K Post (m + 1) ce (nI O.length) (nI k) h := by
  intro m
  induction m with
  | zero =>
    intro k h vf oo O hk hc ht hr ho hs hod hb hK
    have e : k = 80 := by omega
    subst e
    rw [w_CE_workOut_L4]
    try dsimp only
    rw [if_pos (show (80 : Int32) ≤ nI 80 by decide)]
    exact hK h vf oo O gW.rf hc ht hr ho hs hod hb fun _ _ => rfl
  | succ m ih =>
    intro k h vf oo O hk hc ht hr ho hs hod hb hK
    have hk8 : k < 80 := by omega
    have kin : vp_in (nI k) 80 := nI_in hk8 (by omega)
    rw [w_CE_workOut_L4]
    try dsimp only
    rw [if_neg (show ¬ (80 : Int32) ≤ nI k from nI_ge (b := 80) hk8 (by decide))]
    refine ⟨hc.isc, ce_circ hk8 hc hr (fs_ki_of ?_)⟩
    rw [nI_1]
    by_cases hcirc : rea A k k = true
    · rw [bi_1 hcirc, if_neg (show ¬ (1 : Int32) = 0 by decide)]
      refine fs_gr_of hc.1.1 rfl (fs_sd_of hc.1.2.2.1 kin ?_)
      rw [nI_clamp (by omega)]
      have gx1 : gx va h (fs_up h va (.inl (E.1.2 2, 80, .inr (.inr (.inr (.inl (vf_upd vf k 4836865999795912704))))))) := fun q hq => fs_up_ne hq
      refine ih (k + 1) _ (vf_upd vf k 4836865999795912704) oo O (by omega) (hc.atVa gx1 fs_up_self fun j hj => ?_) (ht.atD hc.1.2.2.1 gx1) (hr.atA hc.1.2.2.1 gx1) ⟨fun j => ?_, by have := ho.2; omega⟩ hs hod (fun j hj hj' => ?_) fun h' vf' oo' O' x1 x2 x3 x4 x5 x6 x7 x8 x9 => hK h' vf' oo' O' (gx1.va.trans x1) x2 x3 x4 x5 x6 x7 x8 fun j hj => ?_
      · rw [vf_upd_at]
        split
        · exact nn_bad
        · exact hc.1.2.2.2.2 j hj
      · rw [ho.1 j]
        constructor
        · rintro ⟨z1, z2⟩; exact ⟨by omega, z2⟩
        · rintro ⟨z1, z2, z3⟩
          refine ⟨?_, z2, z3⟩
          by_cases hjk : j = k
          · rw [hjk, hcirc] at z3; cases z3
          · omega
      · rw [vf_upd_at]
        by_cases hjk : j = k
        · rw [if_pos hjk]
        · rw [if_neg hjk]
          exact hb j (by omega) hj'
      · rw [x9 j hj, vf_upd_at, if_neg]
        intro z
        rw [z, hcirc] at hj
        cases hj
    · have hcf : rea A k k = false := by simpa using hcirc
      rw [bi_0 hcf, if_pos rfl]
      refine fs_gr_of hc.1.1 rfl (fs_aq_of hc.2.2.1 kin ?_)
      rw [nI_clamp (by omega)]
      have hb' : ∀ j, j < k + 1 → rea A j j = true → vf j = 4836865999795912704 := by
        intro j hj hj'
        by_cases hjk : j = k
        · rw [hjk, hcf] at hj'; cases hj'
        · exact hb j (by omega) hj'
      by_cases hf : ∃ L, A k = some (.inr L)
      · obtain ⟨L, hL⟩ := hf
        obtain ⟨r, r1, r2⟩ := (ht k hk8).1 L hL
        rw [r1]
        try dsimp only
        have hlen : O.length < 80 := by have := ho.2; omega
        refine ⟨hc.isc, cls_place (A := A) (Fs := Fs) hk8 hc ht hr hlen (fun j hj => by have := ((ho.1 j).mp hj).1; omega) hs hod fun h1 oo1 P1 P2 x1 x2 x3 x4 x5 x6 x7 => fs_kv_of ?_⟩
        rw [nI_1, show O.length + 1 = (P1 ++ k :: P2).length by rw [x2, List.length_append, List.length_append, List.length_cons]; omega]
        refine ih (k + 1) h1 vf oo1 (P1 ++ k :: P2) (by omega) x3 x4 x5 ⟨fun j => ?_, ?_⟩ x7 x6 hb' fun h' vf' oo' O' y1 y2 y3 y4 y5 y6 y7 y8 y9 => hK h' vf' oo' O' (x1.od.trans y1) y2 y3 y4 y5 y6 y7 y8 y9
        · have := ho.1 j
          rw [x2] at this
          simp only [List.mem_append, List.mem_cons] at this ⊢
          constructor
          · rintro (z | z | z)
            · obtain ⟨w1, w2⟩ := this.mp (Or.inl z); exact ⟨by omega, w2⟩
            · rw [z]; exact ⟨by omega, ⟨L, hL⟩, hcf⟩
            · obtain ⟨w1, w2⟩ := this.mp (Or.inr z); exact ⟨by omega, w2⟩
          · rintro ⟨z1, z2⟩
            by_cases hjk : j = k
            · exact Or.inr (Or.inl hjk)
            · rcases this.mpr ⟨by omega, z2⟩ with w | w
              · exact Or.inl w
              · exact Or.inr (Or.inr w)
        · have := ho.2
          rw [x2, List.length_append] at this
          rw [List.length_append, List.length_cons]
          omega
      · rw [(ht k hk8).2 fun L hL => hf ⟨L, hL⟩]
        try dsimp only
        refine ih (k + 1) h vf oo O (by omega) hc ht hr ⟨fun j => ?_, by have := ho.2; omega⟩ hs hod hb' hK
        rw [ho.1 j]
        constructor
        · rintro ⟨z1, z2⟩; exact ⟨by omega, z2⟩
        · rintro ⟨z1, z2, z3⟩
          refine ⟨?_, z2, z3⟩
          by_cases hjk : j = k
          · rw [hjk] at z2; exact absurd z2 hf
          · omega
/-- the VALUES are those of the sheet -/
def vfit (A : Shh) (vf : Nat → UInt64) (D : List Nat) : Prop := ∀ j, j < 80 → A j ≠ none → j ∉ D → ck (vf j) = val A j
theorem cv_fit {A : Shh} {bf : Nat → Int32} {vf : Nat → UInt64} {D : List Nat} {k : Nat} {L : List It} (hs : shok A) (hb : ∀ j, j < 80 → (bf j = 0 ↔ A j = none)) (hv : vfit A vf D) (hk : k < 80) (hA : A k = some (.inr L)) (hD : ∀ j, rea A k j = true → j ∉ D) : evs (cvC bf vf) L [] = evs (cvV A (val A)) L [] := by
  have hL := ((hs k hk).2 L hA).1
  refine evs_congr L [] hL.1 fun c r hc => ?_
  obtain ⟨c8, r10⟩ := rcs_in hL.1 hc
  have hj : r * 8 + c < 80 := by omega
  unfold cvC cvV
  rw [if_pos (show c < 8 ∧ r < 10 from ⟨c8, r10⟩)]
  cases e : A (r * 8 + c) with
  | none => rw [if_pos ((hb _ hj).mpr e)]; rfl
  | some y =>
    rw [if_neg (fun z => by rw [(hb _ hj).mp z] at e; cases e)]
    show some (ck (vf (r * 8 + c))) = some (val A (r * 8 + c))
    rw [hv _ hj (by rw [e]; exact fun z => by cases z) (hD _ (rea_up ?_))]
    rw [refA_L hA hk hj]
    unfold rck
    rw [show (r * 8 + c) % 8 = c by omega, show (r * 8 + c) / 8 = r by omega]
    exact hc
theorem wo_L56 {E : fs_E} (hE : fs_In E) {A : Shh} (hsh : shok A) {ce fil fo va re ga od : Nat} {st : Int32} {bf : Nat → Int32} {ff rf : Nat → Option Nat} {oo : Nat → Int32} {Fs : Nat → List Nat} {K : fs_Hp → Prop} {Post : fs_Ps} {O : List Nat} (ho : onl A 80 O) (hs : O.Pairwise (fun a b => keyA A a ≤ keyA A b)) (hod : ord oo O) (hbf : ∀ j, j < 80 → (bf j = 0 ↔ A j = none)) : ∀ (D O1 : List Nat) (h : fs_Hp) (vf : Nat → UInt64), O = O1 ++ D → csr E h ce fil fo va re ga od st bf vf ff rf oo → trs E h A ff Fs → rset h rf (rea A) → vfit A vf D → (∀ h' vf', gW va od ga h h' → csr E h' ce fil fo va re ga od st bf vf' ff rf oo → trs E h' A ff Fs → rset h' rf (rea A) → vfit A vf' [] → (∀ j, j ∉ O → vf' j = vf j) → K h') → w_CE_workOut_L56 E K Post (D.length + 1) ce (nI O.length) (nI O1.length) h := by
  intro D
  induction D with
  | nil =>
    intro O1 h vf e hc ht hr hv hK
    rw [List.append_nil] at e
    rw [w_CE_workOut_L56]
    try dsimp only
    rw [e, if_pos (Int32.le_refl _)]
    exact hK h vf gW.rf hc ht hr hv fun _ _ => rfl
  | cons k D ih =>
    intro O1 h vf e hc ht hr hv hK
    have hl : O.length = O1.length + (D.length + 1) := by rw [e, List.length_append, List.length_cons]
    have hl80 := ho.2
    have hkO : k ∈ O := by rw [e]; simp
    obtain ⟨k8, ⟨L, hL⟩, kc⟩ := (ho.1 k).mp hkO
    have kin : vp_in (nI k) 80 := nI_in k8 (by omega)
    have oin : vp_in (nI O1.length) 80 := nI_in (by omega) (by omega)
    have hok : oo O1.length = nI k := hod O1.length k (by rw [e, List.getElem?_append_right (Nat.le_refl _), Nat.sub_self]; rfl)
    obtain ⟨r, r1, r2⟩ := (ht k k8).1 L hL
    obtain ⟨gf, hg⟩ := hc.2.1
    rw [w_CE_workOut_L56]
    try dsimp only
    rw [if_neg (nI_ge (by omega) (by omega))]
    refine fs_gr_of hc.1.1 rfl (fs_gr_of hc.1.1 rfl (fs_ai_of hc.2.2.2.2.1 oin ?_))
    rw [nI_clamp (n := O1.length) (by omega), hok]
    refine fs_gr_of hc.1.1 rfl (fs_gr_of hc.1.1 rfl (fs_ai_of hc.2.2.2.2.1 oin ?_))
    rw [nI_clamp (n := O1.length) (by omega), hok]
    refine fs_aq_of hc.2.2.1 kin ?_
    rw [nI_clamp (by omega), r1]
    try dsimp only
    obtain ⟨v, v1, v2⟩ := cls_worth hE 42 (r2.more 41 (by decide)) hc.1 hg
    refine v2 _ fun d h1 gf' d1 d2 d3 => fs_kd_of ?_
    have hc1 := hc.atGa d2 d3
    have ht1 := ht.atD hg d2
    have hr1 := hr.atA hg d2
    refine fs_sd_of hc1.1.2.2.1 kin ?_
    rw [nI_clamp (n := k) (by omega), nI_1]
    have gx1 : gx va h1 (fs_up h1 va (.inl (E.1.2 2, 80, .inr (.inr (.inr (.inl (vf_upd vf k d))))))) := fun q hq => fs_up_ne hq
    have hkD : ∀ j, rea A k j = true → j ∉ k :: D := by
      intro j hj hjD
      have hjO : j ∈ O := by rw [e]; exact List.mem_append_right _ hjD
      have h1 := rea_cnt hj ((ho.1 j).mp hjO).2.2
      have h2 : keyA A k ≤ keyA A j := by
        rcases List.mem_cons.mp hjD with z | z
        · rw [z]; exact Nat.le_refl _
        · rw [e] at hs
          exact (List.pairwise_cons.mp (List.pairwise_append.mp hs).2.1).1 j z
      unfold keyA at h2
      omega
    have hval : ck d = val A k := by
      rw [ck_of d1, val_eq hsh k8 hL kc, ← cv_fit hsh hbf hv k8 hL hkD, v1 []]
      rfl
    have hln : O1.length + 1 = (O1 ++ [k]).length := by rw [List.length_append]; rfl
    rw [hln]
    refine ih (O1 ++ [k]) _ (vf_upd vf k d) (by rw [List.append_assoc]; exact e) (hc1.atVa gx1 fs_up_self fun j hj => ?_) (ht1.atD hc1.1.2.2.1 gx1) (hr1.atA hc1.1.2.2.1 gx1) (fun j hj hj' hjD => ?_) fun h' vf' x1 x2 x3 x4 x5 x6 => hK h' vf' ((d2.ga.trans gx1.va).trans x1) x2 x3 x4 x5 fun j hj => ?_
    · rw [vf_upd_at]
      split
      · exact d1.nn
      · exact hc.1.2.2.2.2 j hj
    · rw [vf_upd_at]
      by_cases hjk : j = k
      · rw [if_pos hjk, hjk]; exact hval
      · rw [if_neg hjk]
        exact hv j hj hj' fun z => by
          rcases List.mem_cons.mp z with z | z
          · exact hjk z
          · exact hjD z
    · rw [x6 j hj, vf_upd_at, if_neg]
      intro z
      rw [z] at hj
      exact hj hkO
/-- the class has settled -/
def stld (A : Shh) (h : fs_Hp) (rf : Nat → Option Nat) (vf : Nat → UInt64) : Prop := rset h rf (rea A) ∧ vfit A vf []
theorem cls_settle {E : fs_E} (hE : fs_In E) {A : Shh} (hsh : shok A) {ce fil fo va re ga od : Nat} {st : Int32} {bf : Nat → Int32} {vf : Nat → UInt64} {ff rf : Nat → Option Nat} {oo : Nat → Int32} {Fs : Nat → List Nat} {h : fs_Hp} {P : Nat → Nat → Bool} {Post : fs_Ps} (hj : rinj rf) (hc : csr E h ce fil fo va re ga od st bf vf ff rf oo) (ht : trs E h A ff Fs) (hr : rset h rf P) (hcel : cel A bf vf) (hst : st = 0 ∨ (st = 1 ∧ stld A h rf vf)) (hK : ∀ h' vf' oo', (∀ q, q ≠ ce → q ≠ va → q ≠ od → q ≠ ga → (∀ k, k < 80 → rf k ≠ some q) → h' q = h q) → csr E h' ce fil fo va re ga od 1 bf vf' ff rf oo' → trs E h' A ff Fs → cel A bf vf' → stld A h' rf vf' → Post (.inl none) h') : w_CE_settle E h ce Post := by
  have hbf : ∀ j, j < 80 → (bf j = 0 ↔ A j = none) := by
    intro j hj
    obtain ⟨c1, c2, c3⟩ := hcel j hj
    constructor
    · intro z
      match e : A j with
      | none => rfl
      | some (.inl d) => rw [(c2 d e).1] at z; exact absurd z (by decide)
      | some (.inr L) => rw [c3 L e] at z; exact absurd z (by decide)
    · intro z; exact (c1 z).1
  unfold w_CE_settle
  refine fs_gi_of hc.1.1 rfl ?_
  rcases hst with rfl | ⟨rfl, hst⟩
  · rw [if_pos rfl]
    refine ⟨hc.isc, cls_findReached (A := A) (Fs := Fs) hj hc ht hr fun h1 a1 a2 a3 a4 => fs_kv_of ⟨a2.isc, ?_⟩⟩
    unfold w_CE_workOut
    refine ⟨80 + 1, ?_⟩
    have ho0 : onl A 0 [] := ⟨fun j => ⟨fun z => (by cases z), fun z => absurd z.1 (Nat.not_lt_zero j)⟩, Nat.le_refl _⟩
    refine wo_L4 (A := A) (Fs := Fs) 80 0 h1 vf oo [] (by omega) a2 a3 a4 ho0 List.Pairwise.nil (fun i k hi => by cases hi) (fun j hj' => absurd hj' (Nat.not_lt_zero j)) fun h2 vf2 oo2 O b1 b2 b3 b4 b5 b6 b7 b8 b9 => ⟨O.length + 1, ?_⟩
    have hv2 : vfit A vf2 O := by
      intro j hj8 hjn hjO
      by_cases hcirc : rea A j j = true
      · rw [b8 j hj8 hcirc, val_circ hcirc]
        exact ck_of vrel.bad
      · have hcf : rea A j j = false := by simpa using hcirc
        match e : A j with
        | none => exact absurd e hjn
        | some (.inl d) =>
          rw [b9 j hcf, ((hcel j hj8).2.1 d e).2, val_num e]
          exact ck_ok ((hsh j hj8).1 d e)
        | some (.inr L) => exact absurd ((b5.1 j).mpr ⟨hj8, ⟨L, e⟩, hcf⟩) hjO
    refine wo_L56 (A := A) hE hsh (Fs := Fs) b5 b6 b7 hbf O [] h2 vf2 rfl b2 b3 b4 hv2 fun h3 vf3 c1 c2 c3 c4 c5 c6 => fs_kv_of ?_
    refine fs_pw_of c2.1.1 (Nat.le_of_ble_eq_true rfl) ?_
    have gx1 : gx ce h3 (fs_up h3 ce (.inr (2, [.ref fil, .ref fo, .ref va, .ref re, .ref ga, .ref od, .int 1]))) := fun q hq => fs_up_ne hq
    have hce : h3 ce = some (.inr (2, [.ref fil, .ref fo, .ref va, .ref re, .ref ga, .ref od, .int 0])) := c2.1.1
    have hstay : ∀ j, (∀ L, A j ≠ some (.inr L)) → vf3 j = vf j := by
      intro j hj'
      have hcf : rea A j j = false := by
        cases e : rea A j j with
        | false => rfl
        | true =>
          obtain ⟨L, hL⟩ := rea_f e
          exact absurd hL (hj' L)
      rw [c6 j (fun z => by obtain ⟨_, ⟨L, hL⟩, _⟩ := (b5.1 j).mp z; exact hj' L hL), b9 j hcf]
    refine hK _ vf3 oo2 (fun q q1 q2 q3 q4 q5 => ?_) ?_ ?_ (fun j hj8 => ⟨fun z => ?_, fun d z => ?_, fun L z => ?_⟩) ⟨?_, c5⟩
    · rw [fs_up_ne q1, c1 q q2 q3 q4, b1 q q2 q3 q4]
      exact a1 q q5
    · obtain ⟨⟨d1, d2, d3, d4⟩, ⟨gf, g⟩, d5, d6, d7, d8⟩ := c2
      exact ⟨⟨fs_up_self, (gx1 fil (Ne.symm (ne_of_O d2 hce))).trans d2, (gx1 va (Ne.symm (ne_of_O d3 hce))).trans d3, d4⟩, ⟨gf, (gx1 ga (Ne.symm (ne_of_O g hce))).trans g⟩, (gx1 fo (Ne.symm (ne_of_O d5 hce))).trans d5, (gx1 re (Ne.symm (ne_of_O d6 hce))).trans d6, (gx1 od (Ne.symm (ne_of_O d7 hce))).trans d7, d8⟩
    · intro k hk
      refine ⟨fun L hL => ?_, (c3 k hk).2⟩
      obtain ⟨r, r1, r2⟩ := (c3 k hk).1 L hL
      refine ⟨r, r1, r2.kept 41 fun q hq => gx1 q fun z => ?_⟩
      rcases rp_cls 41 r2 q hq with ⟨c, fs, w1, w2, w3⟩ | ⟨m, g, w3⟩
      · rw [z, hce] at w3; cases w3; omega
      · unfold tr_in at w3; rw [z, hce] at w3; cases w3
    · rw [hstay j fun L hL => by rw [z] at hL; cases hL]
      exact (hcel j hj8).1 z
    · rw [hstay j fun L hL => by rw [z] at hL; cases hL]
      exact (hcel j hj8).2.1 d z
    · exact (hcel j hj8).2.2 L z
    · intro k hk
      obtain ⟨s, e1, e2⟩ := c4 k hk
      exact ⟨s, e1, e2.kept (gx1 s (Ne.symm (e2.neO hce (by decide))))⟩
  · rw [if_neg (show ¬ (1 : Int32) = 0 by decide)]
    exact hK h vf oo (fun q _ _ _ _ _ => rfl) hc ht hcel hst
