/-! The world as a function of addresses: what lies where. It stands over the kit's lists of cells; each row of the kit gives one here. -/
abbrev fs_Hp : Type := Nat → Option va_E
def fs_up (h : fs_Hp) (a : Nat) (e : va_E) : fs_Hp := fun q => if q = a then some e else h q
theorem fs_up_self {h : fs_Hp} {a : Nat} {e : va_E} : fs_up h a e a = some e := by simp [fs_up]
theorem fs_up_ne {h : fs_Hp} {a q : Nat} {e : va_E} (hq : q ≠ a) : fs_up h a e q = h q := by simp [fs_up, hq]
def fs_P (D : va_G) (cl : List vw_C) (A : Nat → Prop) (h : fs_Hp) (H : Heap) : Prop := ∃ ws : va_W, va_P D cl ws H ∧ va_D A ws ∧ ∀ (a : Nat) (e : va_E), h a = some e ↔ ∃ k : Nat, ws[k]? = some (a, e)
theorem fs_nil {D : va_G} {cl : List vw_C} {A : Nat → Prop} {H : Heap} : fs_P D cl A (fun _ => none) H := by
  refine ⟨[], fun k q h => by simp at h, ⟨fun i j p q h => by simp at h, fun k q h => by simp at h⟩, fun a e => ?_⟩
  simp
theorem fs_P.old {D : va_G} {cl : List vw_C} {A : Nat → Prop} {h : fs_Hp} {H : Heap} (hP : fs_P D cl A h H) {a : Nat} {e : va_E} (ha : h a = some e) : a < H.size ∧ A a ∧ va_at D cl (a, e) H := by
  obtain ⟨ws, h1, h2, h3⟩ := hP
  obtain ⟨k, hk⟩ := (h3 a e).mp ha
  exact ⟨(h1 k _ hk).lt, h2.2 k _ hk, h1 k _ hk⟩
theorem fs_set {A : Nat → Prop} {h : fs_Hp} {ws : va_W} {a k : Nat} {e0 e1 : va_E} (hD : va_D A ws) (h3 : ∀ (a : Nat) (e : va_E), h a = some e ↔ ∃ k : Nat, ws[k]? = some (a, e)) (hk : ws[k]? = some (a, e0)) : ∀ (b : Nat) (e : va_E), fs_up h a e1 b = some e ↔ ∃ j : Nat, (ws.set k (a, e1))[j]? = some (b, e) := by
  intro b e
  have hlt : k < ws.length := (List.getElem?_eq_some_iff.mp hk).1
  by_cases hb : b = a
  · subst hb
    rw [fs_up_self]
    constructor
    · intro he
      cases he
      exact ⟨k, by simp [hlt]⟩
    · rintro ⟨j, hj⟩
      by_cases hjk : j = k
      · subst hjk
        simp [hlt] at hj
        rw [hj]
      · rw [List.getElem?_set_ne (Ne.symm hjk)] at hj
        exact absurd (hD.1 j k _ _ hj hk rfl) hjk
  · rw [fs_up_ne hb, h3]
    constructor
    · rintro ⟨j, hj⟩
      have hjk : j ≠ k := by
        intro q
        subst q
        rw [hk] at hj
        cases hj
        exact hb rfl
      exact ⟨j, by rw [List.getElem?_set_ne (Ne.symm hjk)]; exact hj⟩
    · rintro ⟨j, hj⟩
      by_cases hjk : j = k
      · subst hjk
        simp [hlt] at hj
        exact absurd hj.1.symm hb
      · rw [List.getElem?_set_ne (Ne.symm hjk)] at hj
        exact ⟨j, hj⟩
theorem fs_push {h : fs_Hp} {ws : va_W} {a : Nat} {e1 : va_E} (hn : h a = none) (h3 : ∀ (a : Nat) (e : va_E), h a = some e ↔ ∃ k : Nat, ws[k]? = some (a, e)) : ∀ (b : Nat) (e : va_E), fs_up h a e1 b = some e ↔ ∃ j : Nat, (ws ++ [(a, e1)])[j]? = some (b, e) := by
  intro b e
  constructor
  · intro he
    by_cases hb : b = a
    · subst hb
      rw [fs_up_self] at he
      cases he
      exact ⟨ws.length, by simp⟩
    · rw [fs_up_ne hb, h3] at he
      obtain ⟨j, hj⟩ := he
      have hlt : j < ws.length := (List.getElem?_eq_some_iff.mp hj).1
      exact ⟨j, by rw [List.getElem?_append_left hlt]; exact hj⟩
  · rintro ⟨j, hj⟩
    by_cases hlt : j < ws.length
    · rw [List.getElem?_append_left hlt] at hj
      have hb : h b = some e := (h3 b e).mpr ⟨j, hj⟩
      have hne : b ≠ a := by
        intro q
        subst q
        rw [hn] at hb
        cases hb
      rw [fs_up_ne hne]
      exact hb
    · rw [List.getElem?_append_right (by omega)] at hj
      have hz : j - ws.length < 1 := (List.getElem?_eq_some_iff.mp hj).1
      rw [show j - ws.length = 0 by omega] at hj
      cases hj
      exact fs_up_self
/-- two cells of different contents are apart -/
theorem fs_ne {h : fs_Hp} {a b : Nat} {e1 e2 : va_E} (ha : h a = some e1) (hb : h b = some e2) (hk : e1 ≠ e2) : a ≠ b := by
  intro q
  subst q
  rw [ha] at hb
  cases hb
  exact hk rfl
/-- what kind of cell -/
def fs_kind : va_E → Nat
  | .inr (ci, _) => 5 + ci
  | .inl (_, _, .inl _) => 0
  | .inl (_, _, .inr (.inl _)) => 1
  | .inl (_, _, .inr (.inr (.inl _))) => 2
  | .inl (_, _, .inr (.inr (.inr (.inl _)))) => 3
  | .inl (_, _, .inr (.inr (.inr (.inr _)))) => 4
theorem fs_nek {h : fs_Hp} {a b : Nat} {e1 e2 : va_E} (ha : h a = some e1) (hb : h b = some e2) (hk : fs_kind e1 ≠ fs_kind e2) : a ≠ b := fs_ne ha hb (fun q => hk (by rw [q]))
theorem fs_new_ne {D : va_G} {cl : List vw_C} {A : Nat → Prop} {h : fs_Hp} {a b : Nat} {e1 : va_E} (ha : h a = some e1) (hn : h b = none) : a ≠ b := by
  intro q
  subst q
  rw [ha] at hn
  cases hn
section FSR
variable {p : Program} {l : Launch} {e : Env} {R : Room} {s : State} {m : MethodId} {args : Array Value} {below : List Frame} {meth : Method} {c : Code} {H : Heap} {locs : List Loc} {cells slots : Nat} {Q : State → Prop}
variable {cc : ByteArray} {pc : Nat} {ls : Array Slot} {rest : List Value} {D : va_G} {cl : List vw_C} {A : Nat → Prop} {a : Nat} {tys : List (ClassId × FieldType)} {h : fs_Hp} {H0 : Heap}
/-- what the tables say of a class of the world: its place, its fields -/
def fs_C (Ts : List Cond) (cl : List vw_C) (ci : Nat) (C : String) (T : u_T) (N : Nat) (ty : Nat → FieldType) : Prop :=
  cl[ci]? = some (C, T, N) ∧ (∀ w ∈ u_ws C T N, w ∈ Ts) ∧ (∀ k, k < N → parseFieldDescriptor (T k).2.2.1 = some (ty k)) ∧ (∀ a, a < N → ∀ b, b < N → a ≠ b → (T a).2.1 ≠ (T b).2.1)
theorem fs_get (hexec : p.tables.exec = Jvm.exec) (hb : c.code = cc) {Ts : List Cond} (hts : ∀ w ∈ Ts, w.before args s = true) {own ref C : String} (hown : s.vm.findClass own = some m.cls) (hK : va_K D cl tys s) {T : u_T} {N ci index : Nat} {ty : Nat → FieldType} (hC : fs_C Ts cl ci C T N ty) (hP : fs_P D cl A h H) {fs : List Value} (he : h a = some (.inr (ci, fs))) (k : Nat) (hk : k < N) (hlink : (Cond.fieldLink own index ref (T k).2.1 (T k).2.2.1).before args s = true) (hsame : ∀ x, s.fieldFound? (T k).1 (T k).2.1 (T k).2.2.1 = some x → s.fieldFound? ref (T k).2.1 (T k).2.2.1 = some x) {v : Value} (hv : fs[k]? = some v) (hdg : decode cc pc = .ok (.getfield index, 3))
    (kk : W p l e R s m args below meth c H locs cells slots Q (F0 m (pc + 3) ls (v :: rest))) : W p l e R s m args below meth c H locs cells slots Q (F0 m pc ls (.ref a :: rest)) := by
  obtain ⟨ws, h1, h2, h3⟩ := hP
  obtain ⟨q0, hq⟩ := (h3 _ _).mp he
  exact va_get hexec hb hts hC.2.1 hown hK h1 q0 hq hC.1 k hk hlink hsame hv hdg kk
theorem fs_getN (hexec : p.tables.exec = Jvm.exec) (hb : c.code = cc) {Ts : List Cond} (hts : ∀ w ∈ Ts, w.before args s = true) {own ref C host : String} (hown : s.vm.findClass own = some m.cls) (hK : va_K D cl tys s) {T : u_T} {N ci index : Nat} {ty : Nat → FieldType} (hC : fs_C Ts cl ci C T N ty) (hP : fs_P D cl A h H) {fs : List Value} (he : h a = some (.inr (ci, fs))) (k : Nat) (hk : k < N) (hlink : (Cond.fieldLinkNest own index ref (T k).2.1 (T k).2.2.1 host).before args s = true) (hsame : ∀ x, s.fieldFound? (T k).1 (T k).2.1 (T k).2.2.1 = some x → s.fieldFound? ref (T k).2.1 (T k).2.2.1 = some x) {v : Value} (hv : fs[k]? = some v) (hdg : decode cc pc = .ok (.getfield index, 3))
    (kk : W p l e R s m args below meth c H locs cells slots Q (F0 m (pc + 3) ls (v :: rest))) : W p l e R s m args below meth c H locs cells slots Q (F0 m pc ls (.ref a :: rest)) := by
  obtain ⟨ws, h1, h2, h3⟩ := hP
  obtain ⟨q0, hq⟩ := (h3 _ _).mp he
  exact va_getN hexec hb hts hC.2.1 hown hK h1 q0 hq hC.1 k hk hlink hsame hv hdg kk
theorem fs_put (hexec : p.tables.exec = Jvm.exec) (hb : c.code = cc) {Ts : List Cond} (hts : ∀ w ∈ Ts, w.before args s = true) {own ref C : String} (hown : s.vm.findClass own = some m.cls) (hK : va_K D cl tys s) {T : u_T} {N ci index : Nat} {ty : Nat → FieldType} (hC : fs_C Ts cl ci C T N ty) (hP : fs_P D cl A h H) (hS : va_S A H0 H locs) {fs : List Value} (he : h a = some (.inr (ci, fs))) (k : Nat) (hk : k < N) (hlink : (Cond.fieldLink own index ref (T k).2.1 (T k).2.2.1).before args s = true) (hsame : ∀ x, s.fieldFound? (T k).1 (T k).2.1 (T k).2.2.1 = some x → s.fieldFound? ref (T k).2.1 (T k).2.2.1 = some x) (hfin : (T k).2.2.2 = false) {v : Value} (hn : narrow (ty k) v = v) (hfit : fits (ty k) v = true) (hl : k < fs.length) (hdg : decode cc pc = .ok (.putfield index, 3))
    (kk : ∀ (H1 : Heap) (locs1 : List Loc), fs_P D cl A (fs_up h a (.inr (ci, fs.set k v))) H1 → va_S A H0 H1 locs1 → W p l e R s m args below meth c H1 locs1 cells slots Q (F0 m (pc + 3) ls rest)) : W p l e R s m args below meth c H locs cells slots Q (F0 m pc ls (v :: .ref a :: rest)) := by
  obtain ⟨ws, h1, h2, h3⟩ := hP
  obtain ⟨q0, hq⟩ := (h3 _ _).mp he
  exact va_put hexec hb hts hC.2.1 ty hC.2.2.1 hC.2.2.2 hown hK h1 h2 hS q0 hq hC.1 k hk hlink hsame hfin (hC.2.2.1 k hk) hn hfit hl hdg fun H1 locs1 p1 p2 p3 => kk H1 locs1 ⟨_, p1, p2, fs_set h2 h3 hq⟩ p3
theorem fs_putN (hexec : p.tables.exec = Jvm.exec) (hb : c.code = cc) {Ts : List Cond} (hts : ∀ w ∈ Ts, w.before args s = true) {own ref C host : String} (hown : s.vm.findClass own = some m.cls) (hK : va_K D cl tys s) {T : u_T} {N ci index : Nat} {ty : Nat → FieldType} (hC : fs_C Ts cl ci C T N ty) (hP : fs_P D cl A h H) (hS : va_S A H0 H locs) {fs : List Value} (he : h a = some (.inr (ci, fs))) (k : Nat) (hk : k < N) (hlink : (Cond.fieldLinkNest own index ref (T k).2.1 (T k).2.2.1 host).before args s = true) (hsame : ∀ x, s.fieldFound? (T k).1 (T k).2.1 (T k).2.2.1 = some x → s.fieldFound? ref (T k).2.1 (T k).2.2.1 = some x) (hfin : (T k).2.2.2 = false) {v : Value} (hn : narrow (ty k) v = v) (hfit : fits (ty k) v = true) (hl : k < fs.length) (hdg : decode cc pc = .ok (.putfield index, 3))
    (kk : ∀ (H1 : Heap) (locs1 : List Loc), fs_P D cl A (fs_up h a (.inr (ci, fs.set k v))) H1 → va_S A H0 H1 locs1 → W p l e R s m args below meth c H1 locs1 cells slots Q (F0 m (pc + 3) ls rest)) : W p l e R s m args below meth c H locs cells slots Q (F0 m pc ls (v :: .ref a :: rest)) := by
  obtain ⟨ws, h1, h2, h3⟩ := hP
  obtain ⟨q0, hq⟩ := (h3 _ _).mp he
  exact va_putN hexec hb hts hC.2.1 ty hC.2.2.1 hC.2.2.2 hown hK h1 h2 hS q0 hq hC.1 k hk hlink hsame hfin (hC.2.2.1 k hk) hn hfit hl hdg fun H1 locs1 p1 p2 p3 => kk H1 locs1 ⟨_, p1, p2, fs_set h2 h3 hq⟩ p3
theorem fs_putF (hexec : p.tables.exec = Jvm.exec) (hb : c.code = cc) {Ts : List Cond} (hts : ∀ w ∈ Ts, w.before args s = true) {own ref C : String} (hown : s.vm.findClass own = some m.cls) (hK : va_K D cl tys s) {T : u_T} {N ci index : Nat} {ty : Nat → FieldType} (hC : fs_C Ts cl ci C T N ty) (hP : fs_P D cl A h H) (hS : va_S A H0 H locs) {fs : List Value} (he : h a = some (.inr (ci, fs))) (k : Nat) (hk : k < N) (hlink : (Cond.fieldLink own index ref (T k).2.1 (T k).2.2.1).before args s = true) (hsame : ∀ x, s.fieldFound? (T k).1 (T k).2.1 (T k).2.2.1 = some x → s.fieldFound? ref (T k).2.1 (T k).2.2.1 = some x) (hfin : (T k).2.2.2 = true) (hin2 : meth.name = "<init>") (hdecl : (T k).1 = own) {v : Value} (hn : narrow (ty k) v = v) (hfit : fits (ty k) v = true) (hl : k < fs.length) (hdg : decode cc pc = .ok (.putfield index, 3))
    (kk : ∀ (H1 : Heap) (locs1 : List Loc), fs_P D cl A (fs_up h a (.inr (ci, fs.set k v))) H1 → va_S A H0 H1 locs1 → W p l e R s m args below meth c H1 locs1 cells slots Q (F0 m (pc + 3) ls rest)) : W p l e R s m args below meth c H locs cells slots Q (F0 m pc ls (v :: .ref a :: rest)) := by
  obtain ⟨ws, h1, h2, h3⟩ := hP
  obtain ⟨q0, hq⟩ := (h3 _ _).mp he
  exact va_putF hexec hb hts hC.2.1 ty hC.2.2.1 hC.2.2.2 hown hK h1 h2 hS q0 hq hC.1 k hk hlink hsame hfin hin2 hdecl (hC.2.2.1 k hk) hn hfit hl hdg fun H1 locs1 p1 p2 p3 => kk H1 locs1 ⟨_, p1, p2, fs_set h2 h3 hq⟩ p3
theorem fs_fresh (hP : fs_P D cl A h H) {q : Nat} (hq : H.size ≤ q) : h q = none := by
  cases hh : h q with
  | none => rfl
  | some e => exact absurd (hP.old hh).1 (Nat.not_lt.mpr hq)
theorem fs_new (hexec : p.tables.exec = Jvm.exec) (hb : c.code = cc) {Ts : List Cond} (hts : ∀ w ∈ Ts, w.before args s = true) {own C : String} (hown : s.vm.findClass own = some m.cls) (hK : va_K D cl tys s) {T : u_T} {N ci index : Nat} {ty : Nat → FieldType} (hC : fs_C Ts cl ci C T N ty) (hP : fs_P D cl A h H) (hS : va_S A H0 H locs) (hA : ∀ q, H0.size ≤ q → A q) (hcl : (Cond.classLink own index C).before args s = true) (hinst : (Cond.instantiable C N).before args s = true) (hini : (Cond.initialized C).before args s = true)
    {fs : List Value} (hfs : ∀ j, j < N → defaultValue (ty j) = vp_V fs j) (hcells : cells + 1 ≤ R.cells) (hslots : slots + N ≤ R.slots) (hdg : decode cc pc = .ok (.new index, 3))
    (kk : ∀ (q : Nat) (H1 : Heap), h q = none → fs_P D cl A (fs_up h q (.inr (ci, fs))) H1 → va_S A H0 H1 locs → W p l e R s m args below meth c H1 locs (cells + 1) (slots + N) Q (F0 m (pc + 3) ls (.ref q :: rest))) : W p l e R s m args below meth c H locs cells slots Q (F0 m pc ls rest) := by
  obtain ⟨ws, h1, h2, h3⟩ := id hP
  have hKn := hK.1 ci _ hC.1
  refine W.newcK hexec hb hown hcl hinst hini rfl hdg hcells hslots hKn.2.1 rfl fun H1 kC hkC e1 z1 o1 => ?_
  have hk : ∀ (k : Nat) (x : Nat × va_E), ws[k]? = some x → H1[x.1]? = H[x.1]? := fun k x hx => o1 x.1 ((h1 k x hx).lt)
  have hn : h H.size = none := fs_fresh hP (Nat.le_refl _)
  refine kk H.size H1 hn ⟨ws ++ [(H.size, .inr (ci, fs))], (h1.kept hk).app (fun k x hx => ?_), h2.push h1 rfl (hA _ hS.1), fs_push hn h3⟩ ⟨Nat.le_trans hS.1 (by omega), fun x g1 g2 => (o1 x (Nat.lt_of_lt_of_le g1 hS.1)).trans (hS.2.1 x g1 g2), hS.2.2⟩
  have hz : k < 1 := (List.getElem?_eq_some_iff.mp hx).1
  rw [show k = 0 by omega] at hx
  cases hx
  exact ⟨_, hC.1, (u_born ty hts hC.2.1 hKn hkC e1 hC.2.2.1).to hfs⟩
end FSR
