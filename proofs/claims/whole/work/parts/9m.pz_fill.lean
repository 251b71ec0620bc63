/-! Pure: the class's cells are filled and emptied, rows come and go. -/
def clF (x : Cl) : Int32 := if x = none then 0 else 1
/-- what fill is given for a content -/
def fil1 (E : fs_E) (h : fs_Hp) (x : Cl) (F : List Nat) (full : Int32) (d : UInt64) (o : Option Nat) : Prop := (x = none ∧ full = 0 ∧ d = FP.dconst0 ∧ o = none) ∨ (∃ d', x = some (.inl d') ∧ full = 1 ∧ d = d' ∧ nn d ∧ o = none) ∨ (∃ L r, x = some (.inr L) ∧ full = 1 ∧ nn d ∧ o = some r ∧ rp 41 E h r L F)
/-- the cells' state without what has been worked out; F: where the formulas lie -/
def clL (E : fs_E) (h : fs_Hp) (A : Shh) (ce fil fo va re ga od : Nat) (st : Int32) (bf : Nat → Int32) (vf : Nat → UInt64) (ff rf : Nat → Option Nat) (oo : Nat → Int32) (Fs : Nat → List Nat) : Prop := csr E h ce fil fo va re ga od st bf vf ff rf oo ∧ trs E h A ff Fs ∧ rinj rf ∧ (∃ P, rset h rf P) ∧ cel A bf vf ∧ ∀ k, k < 80 → ∀ L, A k = some (.inr L) → fo ∉ Fs k
theorem va_up_at (f : Nat → Option Nat) (k j : Nat) (x : Option Nat) : va_up f k x j = if j = k then x else f j := rfl
theorem cls_fill {E : fs_E} {h : fs_Hp} {A : Shh} {ce fil fo va re ga od k : Nat} {st : Int32} {bf : Nat → Int32} {vf : Nat → UInt64} {ff rf : Nat → Option Nat} {oo : Nat → Int32} {Fs : Nat → List Nat} {x : Cl} {F : List Nat} {full : Int32} {d : UInt64} {o : Option Nat} {Post : fs_Ps} (hk : k < 80) (c : clL E h A ce fil fo va re ga od st bf vf ff rf oo Fs) (hx : fil1 E h x F full d o) (hF : (∃ L, x = some (.inr L)) → fo ∉ F) (K : ∀ h' bf' vf' ff', clL E h' (fun j => if j = k then x else A j) ce fil fo va re ga od 0 bf' vf' ff' rf oo (fun j => if j = k then F else Fs j) → (∀ q, q ≠ ce → q ≠ fil → q ≠ va → q ≠ fo → h' q = h q) → Post (.inl none) h') : w_CE_fill E h ce (nI k) full d o Post := by
  obtain ⟨⟨⟨c1, c2, c3, c4, c5⟩, ⟨gf, g⟩, a3, a4, a5, a6, a7⟩, ht, hj, ⟨P, hr⟩, hcel, hsep⟩ := c
  have kin : vp_in (nI k) 80 := nI_in hk (by omega)
  have hkc : (nI k).toNatClampNeg = k := nI_clamp (by omega)
  have hfull : vp_nar .boolean full = full := by
    rcases hx with ⟨_, e, _⟩ | ⟨_, _, e, _⟩ | ⟨_, _, _, e, _⟩ <;> rw [e]
    · exact nar_0
    · exact nar_1
    · exact nar_1
  have hnn : nn d := by
    rcases hx with ⟨_, _, e, _⟩ | ⟨_, _, _, _, e, _⟩ | ⟨_, _, _, _, e, _⟩
    · rw [e]; exact nb_0.nn
    · exact e
    · exact e
  have n1 : va ≠ fil := fun z => by rw [z, c2] at c3; exact ar_no c3 (by simp [akd])
  have n2 : fo ≠ fil := fun z => by rw [z, c2] at a3; exact ar_no a3 (by simp [akd])
  have n3 : fo ≠ va := fun z => by rw [z, c3] at a3; exact ar_no a3 (by simp [akd])
  have n4 : re ≠ fil := fun z => by rw [z, c2] at a4; exact ar_no a4 (by simp [akd])
  have n5 : re ≠ va := fun z => by rw [z, c3] at a4; exact ar_no a4 (by simp [akd])
  have n6 : od ≠ va := fun z => by rw [z, c3] at a5; exact ar_no a5 (by simp [akd])
  have n7 : od ≠ fo := fun z => by rw [z, a3] at a5; exact ar_no a5 (by simp [akd])
  have n8 : ga ≠ fil := fun z => by unfold gaF at g; rw [z, c2] at g; exact ar_no g (by simp [akd])
  have n9 : ga ≠ fo := fun z => by unfold gaF at g; rw [z, a3] at g; exact ar_no g (by simp [akd])
  have m1 : ce ≠ fil := ne_of_O c2 c1
  have m2 : ce ≠ va := ne_of_O c3 c1
  have m3 : ce ≠ fo := ne_of_O a3 c1
  have hH : ∃ H : fs_Hp, H = fs_up (fs_up (fs_up (fs_up h fil (.inl (E.1.2 3, 80, .inl (upd bf k full)))) va (.inl (E.1.2 2, 80, .inr (.inr (.inr (.inl (vf_upd vf k d))))))) fo (.inl (E.1.2 6, 80, .inr (.inr (.inr (.inr (va_up ff k o))))))) ce (.inr (2, [.ref fil, .ref fo, .ref va, .ref re, .ref ga, .ref od, .int 0])) := ⟨_, rfl⟩
  obtain ⟨H, eH⟩ := hH
  have fr : ∀ q, q ≠ ce → q ≠ fil → q ≠ va → q ≠ fo → H q = h q := fun q q1 q2 q3 q4 => by rw [eH, fs_up_ne q1, fs_up_ne q4, fs_up_ne q3, fs_up_ne q2]
  have hset : ∀ s p, cset h s p → H s = h s := fun s p hs => fr s (Ne.symm (hs.neO c1 (by decide))) (Ne.symm (hs.neA c2)) (Ne.symm (hs.neA c3)) (Ne.symm (hs.neA a3))
  have hrp : ∀ {r : Nat} {L : List It} {F : List Nat}, rp 41 E h r L F → fo ∉ F → rp 41 E H r L F := by
    intro r L F t hF
    refine t.kept 41 fun q hq => fr q (fun z => ?_) (fun z => rp_notI t c2 (z ▸ hq)) (fun z => rp_notD t c3 (z ▸ hq)) (fun z => hF (z ▸ hq))
    rcases rp_cls 41 t q hq with ⟨c, fs, w1, w2, w3⟩ | ⟨m, g, w3⟩
    · rw [z, c1] at w3; cases w3; omega
    · unfold tr_in at w3; rw [z, c1] at w3; cases w3
  have fin : Post (.inl none) H := by
    refine K H (upd bf k full) (vf_upd vf k d) (va_up ff k o) ⟨⟨⟨by rw [eH]; exact fs_up_self, ?_, ?_, c4, fun j hj' => ?_⟩, ⟨gf, (fr ga (fun z => by unfold gaF at g; rw [z, c1] at g; cases g) n8 c4 n9).trans g⟩, ?_, (fr re (fun z => by rw [z, c1] at a4; cases a4) n4 n5 (Ne.symm a6)).trans a4, (fr od (fun z => by rw [z, c1] at a5; cases a5) (Ne.symm a7) n6 n7).trans a5, a6, a7⟩, fun j hj' => ?_, hj, ⟨P, fun j hj' => ?_⟩, fun j hj' => ?_, fun j hj' L hL => ?_⟩ fr
    · rw [eH, fs_up_ne (Ne.symm m1), fs_up_ne (Ne.symm n2), fs_up_ne (Ne.symm n1)]
      exact fs_up_self
    · rw [eH, fs_up_ne (Ne.symm m2), fs_up_ne (Ne.symm n3)]
      exact fs_up_self
    · rw [vf_upd_at]
      split
      · exact hnn
      · exact c5 j hj'
    · rw [eH, fs_up_ne (Ne.symm m3)]
      exact fs_up_self
    · dsimp only
      by_cases hjk : j = k
      · subst hjk
        rw [if_pos rfl, if_pos rfl, va_up_at, if_pos rfl]
        rcases hx with ⟨e1, _, _, e4⟩ | ⟨d', e1, _, _, _, e4⟩ | ⟨L, r, e1, _, _, e4, e5⟩
        · exact ⟨fun L z => (by rw [e1] at z; cases z), fun _ => e4⟩
        · exact ⟨fun L z => (by rw [e1] at z; cases z), fun _ => e4⟩
        · refine ⟨fun L' z => ⟨r, e4, ?_⟩, fun z => absurd e1 (z L)⟩
          rw [e1] at z
          cases z
          exact hrp e5 (hF ⟨L, e1⟩)
      · rw [if_neg hjk, if_neg hjk, va_up_at, if_neg hjk]
        refine ⟨fun L hL => ?_, (ht j hj').2⟩
        obtain ⟨r, r1, r2⟩ := (ht j hj').1 L hL
        exact ⟨r, r1, hrp r2 (hsep j hj' L hL)⟩
    · obtain ⟨s, s1, s2⟩ := hr j hj'
      exact ⟨s, s1, s2.kept (hset s _ s2)⟩
    · dsimp only
      rw [upd_at, vf_upd_at]
      by_cases hjk : j = k
      · rw [if_pos hjk, if_pos hjk, if_pos hjk]
        rcases hx with ⟨e1, e2, e3, _⟩ | ⟨d', e1, e2, e3, _, _⟩ | ⟨L, r, e1, e2, _, _, _⟩
        · exact ⟨fun _ => ⟨e2, e3⟩, fun d z => (by rw [e1] at z; cases z), fun L z => (by rw [e1] at z; cases z)⟩
        · refine ⟨fun z => (by rw [e1] at z; cases z), fun d'' z => ?_, fun L z => (by rw [e1] at z; cases z)⟩
          rw [e1] at z
          have : d' = d'' := by
            have := Option.some.inj z
            cases this
            rfl
          exact ⟨e2, e3.trans this⟩
        · exact ⟨fun z => (by rw [e1] at z; cases z), fun d z => (by rw [e1] at z; cases z), fun _ _ => e2⟩
      · rw [if_neg hjk, if_neg hjk, if_neg hjk]
        exact hcel j hj'
    · dsimp only at hL ⊢
      by_cases hjk : j = k
      · rw [if_pos hjk] at hL ⊢
        exact hF ⟨L, hL⟩
      · rw [if_neg hjk] at hL ⊢
        exact hsep j hj' L hL
  unfold w_CE_fill
  have hce : ∀ e1, fs_up h fil e1 ce = some (.inr (2, [.ref fil, .ref fo, .ref va, .ref re, .ref ga, .ref od, .int st])) := fun e1 => fs_up_at m1 c1
  have step : ∀ (X : fs_Hp → Prop), X H → (∀ o', o' = o → fs_gr h ce 2 0 (fun a => fs_si h a (E.1.2 3) (nI k) (vp_nar .boolean full) (fun h1 => fs_gr h1 ce 2 2 (fun a1 => fs_sd h1 a1 (E.1.2 2) (nI k) d (fun h2 => fs_gr h2 ce 2 1 (fun a2 => fs_sq h2 a2 (E.1.2 6) (nI k) o' (fun h3 => fs_pw h3 ce 2 6 (.int 0) X))))))) := by
    intro X hX o' ho
    subst ho
    refine fs_gr_of c1 rfl (fs_si_of c2 kin (fs_gr_of (hce _) rfl (fs_sd_of (fs_up_at n1 c3) kin (fs_gr_of (fs_up_at m2 (hce _)) rfl (fs_sq_of (fs_up_at n3 (fs_up_at n2 a3)) kin (fs_pw_of (fs_up_at m3 (fs_up_at m2 (hce _))) (Nat.le_of_ble_eq_true rfl) ?_))))))
    rw [hkc, hfull]
    rw [eH] at hX
    exact hX
  cases o with
  | none => exact step _ fin none rfl
  | some r =>
    have hisP : fs_isP h r := by
      rcases hx with ⟨_, _, _, e⟩ | ⟨_, _, _, _, _, e⟩ | ⟨L, r', _, _, _, e, t⟩
      · cases e
      · cases e
      · cases e
        exact t.isP
    obtain ⟨cc, ffs, ee1, ee2⟩ := fs_isP_some hisP
    have rn1 : r ≠ fil := fun z => by rw [z, c2] at ee1; cases ee1
    have rn2 : r ≠ va := fun z => by rw [z, c3] at ee1; cases ee1
    refine fs_gr_of c1 rfl (fs_si_of c2 kin (fs_gr_of (hce _) rfl (fs_sd_of (fs_up_at n1 c3) kin (fs_gr_of (fs_up_at m2 (hce _)) rfl ⟨fs_isP_of (fs_up_at rn2 (fs_up_at rn1 ee1)) ee2, fs_sq_of (fs_up_at n3 (fs_up_at n2 a3)) kin (fs_pw_of (fs_up_at m3 (fs_up_at m2 (hce _))) (Nat.le_of_ble_eq_true rfl) ?_)⟩))))
    rw [hkc, hfull]
    rw [eH] at fin
    exact fin
