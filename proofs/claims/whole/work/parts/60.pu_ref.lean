/-! Pure: the class reads a reference. -/
theorem nI_lit1 : (1 : Int32) = nI 1 := by decide
theorem nI_lit0 : (0 : Int32) = nI 0 := by decide
theorem pa_take2 {E : fs_E} {h : fs_Hp} {ln ch : Nat} {f : Nat → Int32} {n p o c : Nat} {Post : fs_Ps} (hl : pa_L E h ln ch f n p o) (h0 : 0 < c) (hc : c < 128) (hk : ∀ h', pa_L E h' ln ch f n (p + if pa_n f n p = c then 1 else 0) o → pa_x ln h h' → Post (.inl (some (.int (nI (if pa_n f n p = c then 1 else 0))))) h') : w_LN_take E h ln (nI c) Post := by
  refine pa_take hl (nI_m1 (by omega)) (fun e hp hl2 => ?_) (fun e => ?_)
  · have e2 := (pa_ci hl h0 hc).mp e
    have := hk (pa_up h ln ch n (p + 1) o)
    rw [if_pos e2] at this
    exact this hl2 pa_x.up
  · have e2 : ¬ pa_n f n p = c := fun z => e ((pa_ci hl h0 hc).mpr z)
    have := hk h
    rw [if_neg e2] at this
    exact this hl pa_x.rf
/-- what follows the reading of a reference -/
def pa_KR (E : fs_E) (h : fs_Hp) (ln ch : Nat) (f : Nat → Int32) (n o : Nat) (r : ps_R Nat) (Post : fs_Ps) : Prop :=
  (r.1 = none → ∀ h' : fs_Hp, pa_L E h' ln ch f n r.2 o → pa_x ln h h' → Post (.inl (some .null)) h') ∧
  (∀ x, r.1 = some x → ∀ (h' : fs_Hp) (q : Nat) (F : List Nat), pa_L E h' ln ch f n r.2 o → pa_x ln h h' → tr_rf E h' q (nI x) F → F.Nodup → (∀ a ∈ F, h a = none) → Post (.inl (some (.ref q))) h')
theorem pa_fresh {h0 h : fs_Hp} {ln : Nat} {e : va_E} (hx : pa_x ln h0 h) (hl : h ln = some e) : ∀ q, h q = none → h0 q = none := by
  intro q g1
  cases hz : h0 q with
  | none => rfl
  | some e9 =>
    have g2 : q ≠ ln := fun z => by
      rw [z, hl] at g1
      cases g1
    have := hx q g2 (by rw [hz]; exact fun z => by cases z)
    rw [this, hz] at g1
    cases g1
theorem cp_mkRef {E : fs_E} {h0 h : fs_Hp} {ln ch : Nat} {f : Nat → Int32} {n p o mc ms A B col w : Nat} {Post : fs_Ps} (hl : pa_L E h ln ch f n p o) (hx : pa_x ln h0 h) (hA : A < 2) (hB : B < 2) (hc : col < 8) (hw : w < 10) (hm : 2 ≤ mc) (hs : 6 ≤ ms)
    (hK : ∀ (h' : fs_Hp) (q : Nat) (F : List Nat), pa_L E h' ln ch f n p o → pa_x ln h0 h' → tr_rf E h' q (nI (col + 8 * w + 128 * A + 256 * B)) F → F.Nodup → (∀ a ∈ F, h0 a = none) → Post (.inl (some (.ref q))) h') : w_LN_reference_J76 E Post (nI A) (nI col) (nI B) (nI w) mc ms h := by
  unfold w_LN_reference_J76
  refine ⟨by omega, by omega, fun a ha => ⟨mc - 1, ms - 6, Nat.le_refl _, Nat.le_refl _, mk_RE fs_up_self (by omega) hA hB (fun i h' hi hne e1 e2 e3 => ?_)⟩⟩
  have he := mk_ext ha hi e3
  have hi2 := (up_none hi).2
  have hfr := pa_fresh hx hl.1
  refine fs_kv_of (hK h' a [a, i] (hl.ext he) (fun q g1 g2 => ?_) ?_ ?_ ?_)
  · have g3 := hx q g1 g2
    rw [he q (by rw [g3]; exact g2), g3]
  · exact ⟨nI A, nI B, nI col, nI w, 0, i, _, e1, e2, ⟨⟨A, B, hA, hB, rfl, rfl⟩, Or.inr ⟨rfl, col, w, A, B, hc, hw, hA, hB, rfl, rfl, rfl, rfl, rfl⟩⟩, rfl⟩
  · simp [Ne.symm hne]
  · intro q hq
    simp only [List.mem_cons, List.not_mem_nil, or_false] at hq
    rcases hq with rfl | rfl
    · exact hfr q ha
    · exact hfr q hi2
theorem cp_ref {E : fs_E} {h : fs_Hp} {ln ch : Nat} {f : Nat → Int32} {n p o mc ms : Nat} {Post : fs_Ps} (hl : pa_L E h ln ch f n p o) (hm : 2 * ((ps_ref (pa_n f n) p).2 - p) ≤ mc) (hs : 6 * ((ps_ref (pa_n f n) p).2 - p) ≤ ms) (hK : pa_KR E h ln ch f n o (ps_ref (pa_n f n) p) Post) : w_LN_reference mc ms E h ln Post := by
  have hdl : ∀ q, ps_dl (pa_n f n) q < 2 := fun q => by
    unfold ps_dl
    split <;> omega
  unfold w_LN_reference
  refine ⟨hl.isc, pa_take2 (c := 36) hl (by omega) (by omega) (fun h1 hl1 hx1 => ?_)⟩
  have hl1 : pa_L E h1 ln ch f n (p + ps_dl (pa_n f n) p) o := hl1
  refine fs_ki_of ⟨hl1.isc, pa_nextIsColumn hl1 (fun hc => ?_) (fun hc => ?_)⟩
  · have hc2 := (pa_co hl1).mp hc
    unfold ps_ref at hm hs hK
    rw [if_pos hc2] at hm hs hK
    obtain ⟨hp, hlt, e⟩ := pa_lt hl1 (by omega)
    refine fs_ki_of ?_
    rw [if_neg (by decide)]
    refine ⟨hl1.isc, pa_takeNext hl1 hp (fun hl2 => fs_ki_of ⟨hl2.isc, pa_take2 (c := 36) hl2 (by omega) (by omega) (fun h3 hl3 hx3 => ?_)⟩)⟩
    have hl3 : pa_L E h3 ln ch f n (p + ps_dl (pa_n f n) p + 1 + ps_dl (pa_n f n) (p + ps_dl (pa_n f n) p + 1)) o := hl3
    have hy3 : pa_x ln h h3 := hx1.trans (pa_x.trans pa_x.up hx3)
    have ecol : pa_c f n (p + ps_dl (pa_n f n) p) - 97 = nI (pa_n f n (p + ps_dl (pa_n f n) p) - 97) := by
      rw [e]
      exact pk_sub (b := 97) (by omega)
    have hA := hdl p
    have hcol : pa_n f n (p + ps_dl (pa_n f n) p) - 97 < 8 := by omega
    show fs_isc h3 ln 1 ∧ _
    rw [ecol]
    have eA : (if pa_n f n p = 36 then 1 else 0 : Nat) = ps_dl (pa_n f n) p := rfl
    have eB : (if pa_n f n (p + ps_dl (pa_n f n) p + 1) = 36 then 1 else 0 : Nat) = ps_dl (pa_n f n) (p + ps_dl (pa_n f n) p + 1) := rfl
    rw [eA, eB]
    have hB := hdl (p + ps_dl (pa_n f n) p + 1)
    generalize pa_n f n (p + ps_dl (pa_n f n) p) - 97 = col at *
    unfold ps_rf2 at hm hs hK
    generalize hA9 : ps_dl (pa_n f n) p = A at *
    generalize hB9 : ps_dl (pa_n f n) (p + A + 1) = B at *
    refine ⟨hl3.isc, pa_nextIsDigit hl3 (fun hd => ?_) (fun hd => ?_)⟩
    · have hd2 := (pa_di hl3).mp hd
      obtain ⟨hp3, hlt3, e3⟩ := pa_lt hl3 (by omega)
      refine fs_ki_of ?_
      rw [if_neg (by decide)]
      refine ⟨hl3.isc, pa_next hl3 (fs_ki_of ?_)⟩
      by_cases h48 : pa_n f n (p + A + 1 + B) = 48
      · have z9 : pa_c f n (p + A + 1 + B) = 48 := (pa_ci (c := 48) hl3 (by omega) (by omega)).mpr h48
        rw [if_pos z9]
        rw [if_neg (by omega)] at hm hs hK
        exact hK.1 rfl h3 hl3 hy3
      · have z9 : ¬ pa_c f n (p + A + 1 + B) = 48 := fun z => h48 ((pa_ci (c := 48) hl3 (by omega) (by omega)).mp z)
        rw [if_neg z9]
        have hd3 : 49 ≤ pa_n f n (p + A + 1 + B) ∧ pa_n f n (p + A + 1 + B) ≤ 57 := by omega
        rw [if_pos hd3] at hm hs hK
        have ew : pa_c f n (p + A + 1 + B) - 49 = nI (pa_n f n (p + A + 1 + B) - 49) := by
          rw [e3]
          exact pk_sub (b := 49) (by omega)
        refine ⟨hl3.isc, pa_takeNext hl3 hp3 (fun hl4 => fs_ki_of ?_)⟩
        have hx4 : pa_x ln h (pa_up h3 ln ch n (p + A + 1 + B + 1) o) := hy3.trans pa_x.up
        rw [ew]
        by_cases h49 : pa_n f n (p + A + 1 + B) = 49
        · have e0 : nI (pa_n f n (p + A + 1 + B) - 49) = 0 := by rw [h49]; rfl
          rw [if_pos e0]
          refine ⟨hl4.isc, pa_take2 (c := 48) hl4 (by omega) (by omega) (fun h5 hl5 hx5 => fs_ki_of ?_)⟩
          by_cases h50 : pa_n f n (p + A + 1 + B + 1) = 48
          · rw [if_pos h50] at hl5
            rw [if_pos ⟨h49, h50⟩] at hm hs hK
            rw [if_pos h50, if_neg (show ¬ nI 1 = 0 by decide)]
            have hm2 : 2 * ((p + A + 1 + B + 2) - p) ≤ mc := hm
            have hs2 : 6 * ((p + A + 1 + B + 2) - p) ≤ ms := hs
            exact cp_mkRef (w := 9) hl5 (hx4.trans hx5) hA hB hcol (by omega) (by omega) (by omega) (fun h' q F => hK.2 _ rfl h' q F)
          · rw [if_neg h50] at hl5
            rw [if_neg (fun z => h50 z.2)] at hm hs hK
            rw [if_neg h50, if_pos (show nI 0 = 0 by decide)]
            have hm2 : 2 * ((p + A + 1 + B + 1) - p) ≤ mc := hm
            have hs2 : 6 * ((p + A + 1 + B + 1) - p) ≤ ms := hs
            exact cp_mkRef hl5 (hx4.trans hx5) hA hB hcol (by omega) (by omega) (by omega) (fun h' q F => hK.2 _ rfl h' q F)
        · rw [if_neg (fun z => h49 (by
            have := (nI_eq (a := pa_n f n (p + A + 1 + B) - 49) (b := 0) (by omega) (by decide)).mp z
            omega))]
          rw [if_neg (fun z => h49 z.1)] at hm hs hK
          have hm2 : 2 * ((p + A + 1 + B + 1) - p) ≤ mc := hm
          have hs2 : 6 * ((p + A + 1 + B + 1) - p) ≤ ms := hs
          exact cp_mkRef hl4 hx4 hA hB hcol (by omega) (by omega) (by omega) (fun h' q F => hK.2 _ rfl h' q F)
    · have hd2 : ¬ (48 ≤ pa_n f n (p + A + 1 + B) ∧ pa_n f n (p + A + 1 + B) ≤ 57) := fun z => hd ((pa_di hl3).mpr z)
      refine fs_ki_of ?_
      rw [if_pos rfl]
      rw [if_neg (by omega)] at hm hs hK
      exact hK.1 rfl h3 hl3 hy3
  · have hc2 : ¬ (97 ≤ pa_n f n (p + ps_dl (pa_n f n) p) ∧ pa_n f n (p + ps_dl (pa_n f n) p) ≤ 104) := fun z => hc ((pa_co hl1).mpr z)
    unfold ps_ref at hm hs hK
    rw [if_neg hc2] at hm hs hK
    refine fs_ki_of ?_
    rw [if_pos rfl]
    exact hK.1 rfl h1 hl1 hx1
