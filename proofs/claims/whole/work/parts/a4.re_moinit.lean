/-! Pure: the reference as it begins. -/
set_option maxHeartbeats 20000000 in
set_option maxRecDepth 100000 in
theorem mo_init {E : fs_E} {h : fs_Hp} {a mc ms : Nat} {Post : fs_Ps} (ha : h a = some (.inr (10, [.null, .null, .null, .null, .null, .null, .null, .null, .null, .int 0, .int 0, .int 0, .int 0, .null, .null, .null, .null, .null, .null, .null, .null, .null, .int 0, .int 0, .int 0, .null, .null, .null, .null, .int 0, .int 0, .null, .null, .null, .int 0, .int 0]))) (hm : 25 ≤ mc) (hs : 20000 ≤ ms) (K : ∀ h' ad, mo_at E.1 h' a ad moZ → (∀ j, mo_ar j ≠ none → h (ad j) = none) → (∀ q, q ≠ a → h q ≠ none → h' q = h q) → Post (.inl none) h') : w_MO_init mc ms E h a Post := by
  unfold w_MO_init
  rw [cl81, cl3240, cl24, cl40, cl80, cl44, cl8, cl400]
  have iz := inP.z ha
  refine ⟨by decide, by decide, by omega, by omega, fun b0 n0 => ?_⟩
  refine (iz.al n0).pw (Nat.le_of_ble_eq_true rfl) fun h0 i0 => ⟨by decide, by decide, by omega, by omega, fun b1 n1 => ?_⟩
  replace i0 : inP 10 h h0 a [.ref b0, .null, .null, .null, .null, .null, .null, .null, .null, .int 0, .int 0, .int 0, .int 0, .null, .null, .null, .null, .null, .null, .null, .null, .null, .int 0, .int 0, .int 0, .null, .null, .null, .null, .int 0, .int 0, .null, .null, .null, .int 0, .int 0] _ := i0
  refine (i0.al n1).pw (Nat.le_of_ble_eq_true rfl) fun h1 i1 => ⟨by decide, by decide, by omega, by omega, fun b2 n2 => ?_⟩
  replace i1 : inP 10 h h1 a [.ref b0, .ref b1, .null, .null, .null, .null, .null, .null, .null, .int 0, .int 0, .int 0, .int 0, .null, .null, .null, .null, .null, .null, .null, .null, .null, .int 0, .int 0, .int 0, .null, .null, .null, .null, .int 0, .int 0, .null, .null, .null, .int 0, .int 0] _ := i1
  refine (i1.al n2).pw (Nat.le_of_ble_eq_true rfl) fun h2 i2 => ⟨by decide, by decide, by omega, by omega, fun b3 n3 => ?_⟩
  replace i2 : inP 10 h h2 a [.ref b0, .ref b1, .ref b2, .null, .null, .null, .null, .null, .null, .int 0, .int 0, .int 0, .int 0, .null, .null, .null, .null, .null, .null, .null, .null, .null, .int 0, .int 0, .int 0, .null, .null, .null, .null, .int 0, .int 0, .null, .null, .null, .int 0, .int 0] _ := i2
  refine (i2.al n3).pw (Nat.le_of_ble_eq_true rfl) fun h3 i3 => ⟨by decide, by decide, by omega, by omega, fun b4 n4 => ?_⟩
  replace i3 : inP 10 h h3 a [.ref b0, .ref b1, .ref b2, .ref b3, .null, .null, .null, .null, .null, .int 0, .int 0, .int 0, .int 0, .null, .null, .null, .null, .null, .null, .null, .null, .null, .int 0, .int 0, .int 0, .null, .null, .null, .null, .int 0, .int 0, .null, .null, .null, .int 0, .int 0] _ := i3
  refine (i3.al n4).pw (Nat.le_of_ble_eq_true rfl) fun h4 i4 => ⟨by decide, by decide, by omega, by omega, fun b5 n5 => ?_⟩
  replace i4 : inP 10 h h4 a [.ref b0, .ref b1, .ref b2, .ref b3, .ref b4, .null, .null, .null, .null, .int 0, .int 0, .int 0, .int 0, .null, .null, .null, .null, .null, .null, .null, .null, .null, .int 0, .int 0, .int 0, .null, .null, .null, .null, .int 0, .int 0, .null, .null, .null, .int 0, .int 0] _ := i4
  refine (i4.al n5).pw (Nat.le_of_ble_eq_true rfl) fun h5 i5 => ⟨by decide, by decide, by omega, by omega, fun b6 n6 => ?_⟩
  replace i5 : inP 10 h h5 a [.ref b0, .ref b1, .ref b2, .ref b3, .ref b4, .ref b5, .null, .null, .null, .int 0, .int 0, .int 0, .int 0, .null, .null, .null, .null, .null, .null, .null, .null, .null, .int 0, .int 0, .int 0, .null, .null, .null, .null, .int 0, .int 0, .null, .null, .null, .int 0, .int 0] _ := i5
  refine (i5.al n6).pw (Nat.le_of_ble_eq_true rfl) fun h6 i6 => ⟨by decide, by decide, by omega, by omega, fun b7 n7 => ?_⟩
  replace i6 : inP 10 h h6 a [.ref b0, .ref b1, .ref b2, .ref b3, .ref b4, .ref b5, .ref b6, .null, .null, .int 0, .int 0, .int 0, .int 0, .null, .null, .null, .null, .null, .null, .null, .null, .null, .int 0, .int 0, .int 0, .null, .null, .null, .null, .int 0, .int 0, .null, .null, .null, .int 0, .int 0] _ := i6
  have k7 := i6.al (e := .inl (E.1.2 0, 24, .inl (fun _ : Nat => (0 : Int32)))) n7
  refine k7.si (J := 0) (show (0 : Int32) = nI 0 from rfl) (by decide) (by decide) fun g0 k7_0 => ?_
  refine k7_0.si (J := 1) (show (1 : Int32) = nI 1 from rfl) (by decide) (by decide) fun g1 k7_1 => ?_
  refine k7_1.si (J := 2) (show (2 : Int32) = nI 2 from rfl) (by decide) (by decide) fun g2 k7_2 => ?_
  refine k7_2.si (J := 3) (show (3 : Int32) = nI 3 from rfl) (by decide) (by decide) fun g3 k7_3 => ?_
  refine k7_3.si (J := 4) (show (4 : Int32) = nI 4 from rfl) (by decide) (by decide) fun g4 k7_4 => ?_
  refine k7_4.si (J := 5) (show (5 : Int32) = nI 5 from rfl) (by decide) (by decide) fun g5 k7_5 => ?_
  refine k7_5.si (J := 6) (show (6 : Int32) = nI 6 from rfl) (by decide) (by decide) fun g6 k7_6 => ?_
  refine k7_6.si (J := 7) (show (7 : Int32) = nI 7 from rfl) (by decide) (by decide) fun g7 k7_7 => ?_
  refine k7_7.si (J := 8) (show (8 : Int32) = nI 8 from rfl) (by decide) (by decide) fun g8 k7_8 => ?_
  refine k7_8.si (J := 9) (show (9 : Int32) = nI 9 from rfl) (by decide) (by decide) fun g9 k7_9 => ?_
  refine k7_9.si (J := 10) (show (10 : Int32) = nI 10 from rfl) (by decide) (by decide) fun g10 k7_10 => ?_
  refine k7_10.si (J := 11) (show (11 : Int32) = nI 11 from rfl) (by decide) (by decide) fun g11 k7_11 => ?_
  refine k7_11.si (J := 12) (show (12 : Int32) = nI 12 from rfl) (by decide) (by decide) fun g12 k7_12 => ?_
  refine k7_12.si (J := 13) (show (13 : Int32) = nI 13 from rfl) (by decide) (by decide) fun g13 k7_13 => ?_
  refine k7_13.si (J := 14) (show (14 : Int32) = nI 14 from rfl) (by decide) (by decide) fun g14 k7_14 => ?_
  refine k7_14.si (J := 15) (show (15 : Int32) = nI 15 from rfl) (by decide) (by decide) fun g15 k7_15 => ?_
  refine k7_15.si (J := 16) (show (16 : Int32) = nI 16 from rfl) (by decide) (by decide) fun g16 k7_16 => ?_
  refine k7_16.si (J := 17) (show (17 : Int32) = nI 17 from rfl) (by decide) (by decide) fun g17 k7_17 => ?_
  refine k7_17.si (J := 18) (show (18 : Int32) = nI 18 from rfl) (by decide) (by decide) fun g18 k7_18 => ?_
  refine k7_18.si (J := 19) (show (19 : Int32) = nI 19 from rfl) (by decide) (by decide) fun g19 k7_19 => ?_
  refine k7_19.si (J := 20) (show (20 : Int32) = nI 20 from rfl) (by decide) (by decide) fun g20 k7_20 => ?_
  refine k7_20.si (J := 21) (show (21 : Int32) = nI 21 from rfl) (by decide) (by decide) fun g21 k7_21 => ?_
  refine k7_21.si (J := 22) (show (22 : Int32) = nI 22 from rfl) (by decide) (by decide) fun g22 k7_22 => ?_
  refine k7_22.si (J := 23) (show (23 : Int32) = nI 23 from rfl) (by decide) (by decide) fun g23 k7_23 => ?_
  refine k7_23.pw (Nat.le_of_ble_eq_true rfl) fun h7 i7 => ⟨by decide, by decide, by omega, by omega, fun b8 n8 => ?_⟩
  replace i7 : inP 10 h h7 a [.ref b0, .ref b1, .ref b2, .ref b3, .ref b4, .ref b5, .ref b6, .ref b7, .null, .int 0, .int 0, .int 0, .int 0, .null, .null, .null, .null, .null, .null, .null, .null, .null, .int 0, .int 0, .int 0, .null, .null, .null, .null, .int 0, .int 0, .null, .null, .null, .int 0, .int 0] _ := i7
  refine (i7.al n8).pw (Nat.le_of_ble_eq_true rfl) fun h8 i8 => ?_
  refine i8.pw (Nat.le_of_ble_eq_true rfl) fun h9 i9 => ?_
  refine i9.pw (Nat.le_of_ble_eq_true rfl) fun h10 i10 => ⟨by decide, by decide, by omega, by omega, fun b13 n13 => ?_⟩
  replace i10 : inP 10 h h10 a [.ref b0, .ref b1, .ref b2, .ref b3, .ref b4, .ref b5, .ref b6, .ref b7, .ref b8, .int 0, .int (-1), .int 0, .int 1, .null, .null, .null, .null, .null, .null, .null, .null, .null, .int 0, .int 0, .int 0, .null, .null, .null, .null, .int 0, .int 0, .null, .null, .null, .int 0, .int 0] _ := i10
  refine (i10.al n13).pw (Nat.le_of_ble_eq_true rfl) fun h13 i13 => ⟨by decide, by decide, by omega, by omega, fun b14 n14 => ?_⟩
  replace i13 : inP 10 h h13 a [.ref b0, .ref b1, .ref b2, .ref b3, .ref b4, .ref b5, .ref b6, .ref b7, .ref b8, .int 0, .int (-1), .int 0, .int 1, .ref b13, .null, .null, .null, .null, .null, .null, .null, .null, .int 0, .int 0, .int 0, .null, .null, .null, .null, .int 0, .int 0, .null, .null, .null, .int 0, .int 0] _ := i13
  refine (i13.al n14).pw (Nat.le_of_ble_eq_true rfl) fun h14 i14 => ⟨by decide, by decide, by omega, by omega, fun b15 n15 => ?_⟩
  replace i14 : inP 10 h h14 a [.ref b0, .ref b1, .ref b2, .ref b3, .ref b4, .ref b5, .ref b6, .ref b7, .ref b8, .int 0, .int (-1), .int 0, .int 1, .ref b13, .ref b14, .null, .null, .null, .null, .null, .null, .null, .int 0, .int 0, .int 0, .null, .null, .null, .null, .int 0, .int 0, .null, .null, .null, .int 0, .int 0] _ := i14
  refine (i14.al n15).pw (Nat.le_of_ble_eq_true rfl) fun h15 i15 => ⟨by decide, by decide, by omega, by omega, fun b16 n16 => ?_⟩
  replace i15 : inP 10 h h15 a [.ref b0, .ref b1, .ref b2, .ref b3, .ref b4, .ref b5, .ref b6, .ref b7, .ref b8, .int 0, .int (-1), .int 0, .int 1, .ref b13, .ref b14, .ref b15, .null, .null, .null, .null, .null, .null, .int 0, .int 0, .int 0, .null, .null, .null, .null, .int 0, .int 0, .null, .null, .null, .int 0, .int 0] _ := i15
  refine (i15.al n16).pw (Nat.le_of_ble_eq_true rfl) fun h16 i16 => ⟨by decide, by decide, by omega, by omega, fun b17 n17 => ?_⟩
  replace i16 : inP 10 h h16 a [.ref b0, .ref b1, .ref b2, .ref b3, .ref b4, .ref b5, .ref b6, .ref b7, .ref b8, .int 0, .int (-1), .int 0, .int 1, .ref b13, .ref b14, .ref b15, .ref b16, .null, .null, .null, .null, .null, .int 0, .int 0, .int 0, .null, .null, .null, .null, .int 0, .int 0, .null, .null, .null, .int 0, .int 0] _ := i16
  refine (i16.al n17).pw (Nat.le_of_ble_eq_true rfl) fun h17 i17 => ⟨by decide, by decide, by omega, by omega, fun b18 n18 => ?_⟩
  replace i17 : inP 10 h h17 a [.ref b0, .ref b1, .ref b2, .ref b3, .ref b4, .ref b5, .ref b6, .ref b7, .ref b8, .int 0, .int (-1), .int 0, .int 1, .ref b13, .ref b14, .ref b15, .ref b16, .ref b17, .null, .null, .null, .null, .int 0, .int 0, .int 0, .null, .null, .null, .null, .int 0, .int 0, .null, .null, .null, .int 0, .int 0] _ := i17
  refine (i17.al n18).pw (Nat.le_of_ble_eq_true rfl) fun h18 i18 => ⟨by decide, by decide, by omega, by omega, fun b19 n19 => ?_⟩
  replace i18 : inP 10 h h18 a [.ref b0, .ref b1, .ref b2, .ref b3, .ref b4, .ref b5, .ref b6, .ref b7, .ref b8, .int 0, .int (-1), .int 0, .int 1, .ref b13, .ref b14, .ref b15, .ref b16, .ref b17, .ref b18, .null, .null, .null, .int 0, .int 0, .int 0, .null, .null, .null, .null, .int 0, .int 0, .null, .null, .null, .int 0, .int 0] _ := i18
  refine (i18.al n19).pw (Nat.le_of_ble_eq_true rfl) fun h19 i19 => ⟨by decide, by decide, by omega, by omega, fun b20 n20 => ?_⟩
  replace i19 : inP 10 h h19 a [.ref b0, .ref b1, .ref b2, .ref b3, .ref b4, .ref b5, .ref b6, .ref b7, .ref b8, .int 0, .int (-1), .int 0, .int 1, .ref b13, .ref b14, .ref b15, .ref b16, .ref b17, .ref b18, .ref b19, .null, .null, .int 0, .int 0, .int 0, .null, .null, .null, .null, .int 0, .int 0, .null, .null, .null, .int 0, .int 0] _ := i19
  refine (i19.al n20).pw (Nat.le_of_ble_eq_true rfl) fun h20 i20 => ⟨by decide, by decide, by omega, by omega, fun b21 n21 => ?_⟩
  replace i20 : inP 10 h h20 a [.ref b0, .ref b1, .ref b2, .ref b3, .ref b4, .ref b5, .ref b6, .ref b7, .ref b8, .int 0, .int (-1), .int 0, .int 1, .ref b13, .ref b14, .ref b15, .ref b16, .ref b17, .ref b18, .ref b19, .ref b20, .null, .int 0, .int 0, .int 0, .null, .null, .null, .null, .int 0, .int 0, .null, .null, .null, .int 0, .int 0] _ := i20
  refine (i20.al n21).pw (Nat.le_of_ble_eq_true rfl) fun h21 i21 => ⟨by decide, by decide, by omega, by omega, fun b25 n25 => ?_⟩
  replace i21 : inP 10 h h21 a [.ref b0, .ref b1, .ref b2, .ref b3, .ref b4, .ref b5, .ref b6, .ref b7, .ref b8, .int 0, .int (-1), .int 0, .int 1, .ref b13, .ref b14, .ref b15, .ref b16, .ref b17, .ref b18, .ref b19, .ref b20, .ref b21, .int 0, .int 0, .int 0, .null, .null, .null, .null, .int 0, .int 0, .null, .null, .null, .int 0, .int 0] _ := i21
  refine (i21.al n25).pw (Nat.le_of_ble_eq_true rfl) fun h25 i25 => ⟨by decide, by decide, by omega, by omega, fun b26 n26 => ?_⟩
  replace i25 : inP 10 h h25 a [.ref b0, .ref b1, .ref b2, .ref b3, .ref b4, .ref b5, .ref b6, .ref b7, .ref b8, .int 0, .int (-1), .int 0, .int 1, .ref b13, .ref b14, .ref b15, .ref b16, .ref b17, .ref b18, .ref b19, .ref b20, .ref b21, .int 0, .int 0, .int 0, .ref b25, .null, .null, .null, .int 0, .int 0, .null, .null, .null, .int 0, .int 0] _ := i25
  refine (i25.al n26).pw (Nat.le_of_ble_eq_true rfl) fun h26 i26 => ⟨by decide, by decide, by omega, by omega, fun b27 n27 => ?_⟩
  replace i26 : inP 10 h h26 a [.ref b0, .ref b1, .ref b2, .ref b3, .ref b4, .ref b5, .ref b6, .ref b7, .ref b8, .int 0, .int (-1), .int 0, .int 1, .ref b13, .ref b14, .ref b15, .ref b16, .ref b17, .ref b18, .ref b19, .ref b20, .ref b21, .int 0, .int 0, .int 0, .ref b25, .ref b26, .null, .null, .int 0, .int 0, .null, .null, .null, .int 0, .int 0] _ := i26
  refine (i26.al n27).pw (Nat.le_of_ble_eq_true rfl) fun h27 i27 => ⟨by decide, by decide, by omega, by omega, fun b28 n28 => ?_⟩
  replace i27 : inP 10 h h27 a [.ref b0, .ref b1, .ref b2, .ref b3, .ref b4, .ref b5, .ref b6, .ref b7, .ref b8, .int 0, .int (-1), .int 0, .int 1, .ref b13, .ref b14, .ref b15, .ref b16, .ref b17, .ref b18, .ref b19, .ref b20, .ref b21, .int 0, .int 0, .int 0, .ref b25, .ref b26, .ref b27, .null, .int 0, .int 0, .null, .null, .null, .int 0, .int 0] _ := i27
  refine (i27.al n28).pw (Nat.le_of_ble_eq_true rfl) fun h28 i28 => ⟨by decide, by decide, by omega, by omega, fun b31 n31 => ?_⟩
  replace i28 : inP 10 h h28 a [.ref b0, .ref b1, .ref b2, .ref b3, .ref b4, .ref b5, .ref b6, .ref b7, .ref b8, .int 0, .int (-1), .int 0, .int 1, .ref b13, .ref b14, .ref b15, .ref b16, .ref b17, .ref b18, .ref b19, .ref b20, .ref b21, .int 0, .int 0, .int 0, .ref b25, .ref b26, .ref b27, .ref b28, .int 0, .int 0, .null, .null, .null, .int 0, .int 0] _ := i28
  refine (i28.al n31).pw (Nat.le_of_ble_eq_true rfl) fun h31 i31 => ⟨by decide, by decide, by omega, by omega, fun b32 n32 => ?_⟩
  replace i31 : inP 10 h h31 a [.ref b0, .ref b1, .ref b2, .ref b3, .ref b4, .ref b5, .ref b6, .ref b7, .ref b8, .int 0, .int (-1), .int 0, .int 1, .ref b13, .ref b14, .ref b15, .ref b16, .ref b17, .ref b18, .ref b19, .ref b20, .ref b21, .int 0, .int 0, .int 0, .ref b25, .ref b26, .ref b27, .ref b28, .int 0, .int 0, .ref b31, .null, .null, .int 0, .int 0] _ := i31
  refine (i31.al n32).pw (Nat.le_of_ble_eq_true rfl) fun h32 i32 => ⟨by decide, by decide, by omega, by omega, fun b33 n33 => ?_⟩
  replace i32 : inP 10 h h32 a [.ref b0, .ref b1, .ref b2, .ref b3, .ref b4, .ref b5, .ref b6, .ref b7, .ref b8, .int 0, .int (-1), .int 0, .int 1, .ref b13, .ref b14, .ref b15, .ref b16, .ref b17, .ref b18, .ref b19, .ref b20, .ref b21, .int 0, .int 0, .int 0, .ref b25, .ref b26, .ref b27, .ref b28, .int 0, .int 0, .ref b31, .ref b32, .null, .int 0, .int 0] _ := i32
  refine (i32.al n33).pw (Nat.le_of_ble_eq_true rfl) fun h33 i33 => ?_
  have i' : inP 10 h h33 a [.ref b0, .ref b1, .ref b2, .ref b3, .ref b4, .ref b5, .ref b6, .ref b7, .ref b8, .int 0, .int (-1), .int 0, .int 1, .ref b13, .ref b14, .ref b15, .ref b16, .ref b17, .ref b18, .ref b19, .ref b20, .ref b21, .int 0, .int 0, .int 0, .ref b25, .ref b26, .ref b27, .ref b28, .int 0, .int 0, .ref b31, .ref b32, .ref b33, .int 0, .int 0] [(b33, .inl (E.1.2 0, 44, .inl (fun _ : Nat => (0 : Int32)))), (b32, .inl (E.1.2 0, 44, .inl (fun _ : Nat => (0 : Int32)))), (b31, .inl (E.1.2 0, 400, .inl (fun _ : Nat => (0 : Int32)))), (b28, .inl (E.1.2 0, 44, .inl (fun _ : Nat => (0 : Int32)))), (b27, .inl (E.1.2 3, 8, .inl (fun _ : Nat => (0 : Int32)))), (b26, .inl (E.1.2 0, 8, .inl (fun _ : Nat => (0 : Int32)))), (b25, .inl (E.1.2 0, 8, .inl (fun _ : Nat => (0 : Int32)))), (b21, .inl (E.1.2 3, 44, .inl (fun _ : Nat => (0 : Int32)))), (b20, .inl (E.1.2 2, 44, .inr (.inr (.inr (.inl (fun _ : Nat => (0 : UInt64))))))), (b19, .inl (E.1.2 3, 80, .inl (fun _ : Nat => (0 : Int32)))), (b18, .inl (E.1.2 3, 80, .inl (fun _ : Nat => (0 : Int32)))), (b17, .inl (E.1.2 2, 80, .inr (.inr (.inr (.inl (fun _ : Nat => (0 : UInt64))))))), (b16, .inl (E.1.2 1, 80, .inr (.inl (fun _ : Nat => (0 : Int64))))), (b15, .inl (E.1.2 1, 80, .inr (.inl (fun _ : Nat => (0 : Int64))))), (b14, .inl (E.1.2 1, 80, .inr (.inl (fun _ : Nat => (0 : Int64))))), (b13, .inl (E.1.2 1, 80, .inr (.inl (fun _ : Nat => (0 : Int64))))), (b8, .inl (E.1.2 0, 40, .inl (fun _ : Nat => (0 : Int32)))), (b7, .inl (E.1.2 0, 24, .inl nmF)), (b6, .inl (E.1.2 1, 3240, .inr (.inl (fun _ : Nat => (0 : Int64))))), (b5, .inl (E.1.2 0, 3240, .inl (fun _ : Nat => (0 : Int32)))), (b4, .inl (E.1.2 0, 3240, .inl (fun _ : Nat => (0 : Int32)))), (b3, .inl (E.1.2 0, 3240, .inl (fun _ : Nat => (0 : Int32)))), (b2, .inl (E.1.2 2, 81, .inr (.inr (.inr (.inl (fun _ : Nat => (0 : UInt64))))))), (b1, .inl (E.1.2 0, 81, .inl (fun _ : Nat => (0 : Int32)))), (b0, .inl (E.1.2 0, 81, .inl (fun _ : Nat => (0 : Int32))))] := i33
  obtain ⟨ad, m1, m2⟩ := mo_made i'
  exact K _ ad m1 m2 i'.2.2.2.1
