/-! The constants of the start: the names, their texts, the tables of digits. -/
def fs_ands : Cond → List Cond
  | .and a b => fs_ands a ++ fs_ands b
  | c => [c]
theorem fs_ands_ok {args : Array Value} {s : State} : ∀ (c : Cond), c.before args s = true → ∀ w ∈ fs_ands c, w.before args s = true := by
  intro c
  induction c with
  | and a b iha ihb =>
    intro h w hw
    rw [Cond.before_and, Bool.and_eq_true] at h
    rcases List.mem_append.mp hw with h9 | h9
    · exact iha h.1 w h9
    · exact ihb h.2 w h9
  | _ => intro h w hw; rw [List.mem_singleton.mp hw]; exact h
theorem fs_St.nar {l : Launch} {s00 : State} {G : fs_G} (h : fs_St l s00 G) : ∃ b : Nat, (∀ w ∈ lw_tbl, w.before #[Value.ref b] s00 = true) ∧ ∀ w ∈ fs_ands narrow_1, w.before #[Value.ref b] s00 = true := by
  obtain ⟨-, ⟨b, h1, h2⟩, -⟩ := h
  rw [Cond.before_and, Bool.and_eq_true] at h2
  exact ⟨b, h1, fs_ands_ok _ h2.2⟩
theorem fs_na {s : State} {args : Array Value} (h : ∀ w ∈ fs_ands narrow_1, w.before args s = true) (i : Nat) {w : Cond} (hi : (fs_ands narrow_1)[i]? = some w) : w.before args s = true := h w (List.mem_of_getElem? hi)
theorem fs_eqr {args : Array Value} {s : State} {t u : Term} {a : Nat} (h : (Cond.eq t u).before args s = true) (hu : u.eval args s none [] s = some (.ref a)) : t.eval args s none [] s = some (.ref a) := by
  cases hv : t.eval args s none [] s with
  | none => simp [Cond.before, Cond.holds, Cond.value, hv] at h
  | some w =>
    simp only [Cond.before, Cond.holds, Cond.value, hv, hu] at h
    cases w <;> simp_all
theorem fs_nA {s00 : State} : ∀ a : Nat, a < s00.heap.size → ¬ fs_A s00 a := fun a h => Nat.not_le.mpr h
def fs_lg (j : Nat) : Int32 := match j with
  | 5 => 1
  | 6 => 1
  | 7 => 3
  | _ => 0
def fs_ob (j : Nat) : List Int32 := match j with
  | 0 => [115, 117, 109, 40]
  | 1 => [109, 105, 110, 40]
  | 2 => [109, 97, 120, 40]
  | 3 => [99, 110, 116, 40]
  | 4 => [97, 118, 103, 40]
  | 5 => [97, 98, 115, 40]
  | 6 => [105, 110, 116, 40]
  | 7 => [105, 102, 40]
  | _ => []
def fs_dt (c n : Nat) : Int32 := if c = 9 then Int32.ofNat (48 + n / 10) else Int32.ofNat (48 + n % 10)
theorem na_5 : (fs_ands narrow_1)[5]? = some (Jvm.Cond.eq (Jvm.Term.field (Jvm.Term.static "FormulaSheet$Name" "CNT" "LFormulaSheet$Name;") "FormulaSheet$Name" "opening" "Ljava/lang/String;") (Jvm.Term.string "FormulaSheet$Name" (68 : Nat))) := by decide +kernel
theorem na_6 : (fs_ands narrow_1)[6]? = some (Jvm.Cond.eq (Jvm.Term.field (Jvm.Term.static "FormulaSheet$Name" "CNT" "LFormulaSheet$Name;") "FormulaSheet$Name" "logics" "I") (Jvm.Term.int (0 : Int32))) := by decide +kernel
theorem na_9 : (fs_ands narrow_1)[9]? = some (Jvm.Cond.eq (Jvm.Term.field (Jvm.Term.static "FormulaSheet$Name" "MIN" "LFormulaSheet$Name;") "FormulaSheet$Name" "opening" "Ljava/lang/String;") (Jvm.Term.string "FormulaSheet$Name" (62 : Nat))) := by decide +kernel
theorem na_10 : (fs_ands narrow_1)[10]? = some (Jvm.Cond.eq (Jvm.Term.field (Jvm.Term.static "FormulaSheet$Name" "MIN" "LFormulaSheet$Name;") "FormulaSheet$Name" "logics" "I") (Jvm.Term.int (0 : Int32))) := by decide +kernel
theorem na_11 : (fs_ands narrow_1)[11]? = some (Jvm.Cond.not (Jvm.Cond.eq (Jvm.Term.static "FormulaSheet$Name" "CNT" "LFormulaSheet$Name;") (Jvm.Term.static "FormulaSheet$Name" "MIN" "LFormulaSheet$Name;"))) := by decide +kernel
theorem na_14 : (fs_ands narrow_1)[14]? = some (Jvm.Cond.eq (Jvm.Term.field (Jvm.Term.static "FormulaSheet$Name" "MAX" "LFormulaSheet$Name;") "FormulaSheet$Name" "opening" "Ljava/lang/String;") (Jvm.Term.string "FormulaSheet$Name" (65 : Nat))) := by decide +kernel
theorem na_15 : (fs_ands narrow_1)[15]? = some (Jvm.Cond.eq (Jvm.Term.field (Jvm.Term.static "FormulaSheet$Name" "MAX" "LFormulaSheet$Name;") "FormulaSheet$Name" "logics" "I") (Jvm.Term.int (0 : Int32))) := by decide +kernel
theorem na_16 : (fs_ands narrow_1)[16]? = some (Jvm.Cond.not (Jvm.Cond.eq (Jvm.Term.static "FormulaSheet$Name" "CNT" "LFormulaSheet$Name;") (Jvm.Term.static "FormulaSheet$Name" "MAX" "LFormulaSheet$Name;"))) := by decide +kernel
theorem na_17 : (fs_ands narrow_1)[17]? = some (Jvm.Cond.not (Jvm.Cond.eq (Jvm.Term.static "FormulaSheet$Name" "MIN" "LFormulaSheet$Name;") (Jvm.Term.static "FormulaSheet$Name" "MAX" "LFormulaSheet$Name;"))) := by decide +kernel
theorem na_20 : (fs_ands narrow_1)[20]? = some (Jvm.Cond.eq (Jvm.Term.field (Jvm.Term.static "FormulaSheet$Name" "SUM" "LFormulaSheet$Name;") "FormulaSheet$Name" "opening" "Ljava/lang/String;") (Jvm.Term.string "FormulaSheet$Name" (56 : Nat))) := by decide +kernel
theorem na_21 : (fs_ands narrow_1)[21]? = some (Jvm.Cond.eq (Jvm.Term.field (Jvm.Term.static "FormulaSheet$Name" "SUM" "LFormulaSheet$Name;") "FormulaSheet$Name" "logics" "I") (Jvm.Term.int (0 : Int32))) := by decide +kernel
theorem na_22 : (fs_ands narrow_1)[22]? = some (Jvm.Cond.not (Jvm.Cond.eq (Jvm.Term.static "FormulaSheet$Name" "CNT" "LFormulaSheet$Name;") (Jvm.Term.static "FormulaSheet$Name" "SUM" "LFormulaSheet$Name;"))) := by decide +kernel
theorem na_23 : (fs_ands narrow_1)[23]? = some (Jvm.Cond.not (Jvm.Cond.eq (Jvm.Term.static "FormulaSheet$Name" "MIN" "LFormulaSheet$Name;") (Jvm.Term.static "FormulaSheet$Name" "SUM" "LFormulaSheet$Name;"))) := by decide +kernel
theorem na_24 : (fs_ands narrow_1)[24]? = some (Jvm.Cond.not (Jvm.Cond.eq (Jvm.Term.static "FormulaSheet$Name" "MAX" "LFormulaSheet$Name;") (Jvm.Term.static "FormulaSheet$Name" "SUM" "LFormulaSheet$Name;"))) := by decide +kernel
theorem na_27 : (fs_ands narrow_1)[27]? = some (Jvm.Cond.eq (Jvm.Term.field (Jvm.Term.static "FormulaSheet$Name" "IF" "LFormulaSheet$Name;") "FormulaSheet$Name" "opening" "Ljava/lang/String;") (Jvm.Term.string "FormulaSheet$Name" (80 : Nat))) := by decide +kernel
theorem na_28 : (fs_ands narrow_1)[28]? = some (Jvm.Cond.eq (Jvm.Term.field (Jvm.Term.static "FormulaSheet$Name" "IF" "LFormulaSheet$Name;") "FormulaSheet$Name" "logics" "I") (Jvm.Term.int (3 : Int32))) := by decide +kernel
theorem na_29 : (fs_ands narrow_1)[29]? = some (Jvm.Cond.not (Jvm.Cond.eq (Jvm.Term.static "FormulaSheet$Name" "CNT" "LFormulaSheet$Name;") (Jvm.Term.static "FormulaSheet$Name" "IF" "LFormulaSheet$Name;"))) := by decide +kernel
theorem na_30 : (fs_ands narrow_1)[30]? = some (Jvm.Cond.not (Jvm.Cond.eq (Jvm.Term.static "FormulaSheet$Name" "MIN" "LFormulaSheet$Name;") (Jvm.Term.static "FormulaSheet$Name" "IF" "LFormulaSheet$Name;"))) := by decide +kernel
theorem na_31 : (fs_ands narrow_1)[31]? = some (Jvm.Cond.not (Jvm.Cond.eq (Jvm.Term.static "FormulaSheet$Name" "MAX" "LFormulaSheet$Name;") (Jvm.Term.static "FormulaSheet$Name" "IF" "LFormulaSheet$Name;"))) := by decide +kernel
theorem na_32 : (fs_ands narrow_1)[32]? = some (Jvm.Cond.not (Jvm.Cond.eq (Jvm.Term.static "FormulaSheet$Name" "SUM" "LFormulaSheet$Name;") (Jvm.Term.static "FormulaSheet$Name" "IF" "LFormulaSheet$Name;"))) := by decide +kernel
theorem na_35 : (fs_ands narrow_1)[35]? = some (Jvm.Cond.eq (Jvm.Term.field (Jvm.Term.static "FormulaSheet$Name" "INT" "LFormulaSheet$Name;") "FormulaSheet$Name" "opening" "Ljava/lang/String;") (Jvm.Term.string "FormulaSheet$Name" (77 : Nat))) := by decide +kernel
theorem na_36 : (fs_ands narrow_1)[36]? = some (Jvm.Cond.eq (Jvm.Term.field (Jvm.Term.static "FormulaSheet$Name" "INT" "LFormulaSheet$Name;") "FormulaSheet$Name" "logics" "I") (Jvm.Term.int (1 : Int32))) := by decide +kernel
theorem na_37 : (fs_ands narrow_1)[37]? = some (Jvm.Cond.not (Jvm.Cond.eq (Jvm.Term.static "FormulaSheet$Name" "CNT" "LFormulaSheet$Name;") (Jvm.Term.static "FormulaSheet$Name" "INT" "LFormulaSheet$Name;"))) := by decide +kernel
theorem na_38 : (fs_ands narrow_1)[38]? = some (Jvm.Cond.not (Jvm.Cond.eq (Jvm.Term.static "FormulaSheet$Name" "MIN" "LFormulaSheet$Name;") (Jvm.Term.static "FormulaSheet$Name" "INT" "LFormulaSheet$Name;"))) := by decide +kernel
theorem na_39 : (fs_ands narrow_1)[39]? = some (Jvm.Cond.not (Jvm.Cond.eq (Jvm.Term.static "FormulaSheet$Name" "MAX" "LFormulaSheet$Name;") (Jvm.Term.static "FormulaSheet$Name" "INT" "LFormulaSheet$Name;"))) := by decide +kernel
theorem na_40 : (fs_ands narrow_1)[40]? = some (Jvm.Cond.not (Jvm.Cond.eq (Jvm.Term.static "FormulaSheet$Name" "SUM" "LFormulaSheet$Name;") (Jvm.Term.static "FormulaSheet$Name" "INT" "LFormulaSheet$Name;"))) := by decide +kernel
theorem na_41 : (fs_ands narrow_1)[41]? = some (Jvm.Cond.not (Jvm.Cond.eq (Jvm.Term.static "FormulaSheet$Name" "IF" "LFormulaSheet$Name;") (Jvm.Term.static "FormulaSheet$Name" "INT" "LFormulaSheet$Name;"))) := by decide +kernel
theorem na_42 : (fs_ands narrow_1)[42]? = some (Jvm.Cond.isRef (Jvm.Term.static "java/lang/Throwable" "UNASSIGNED_STACK" "[Ljava/lang/StackTraceElement;")) := by decide +kernel
theorem na_43 : (fs_ands narrow_1)[43]? = some (Jvm.Cond.isRef (Jvm.Term.static "java/lang/Throwable" "SUPPRESSED_SENTINEL" "Ljava/util/List;")) := by decide +kernel
theorem na_46 : (fs_ands narrow_1)[46]? = some (Jvm.Cond.arrayOf (Jvm.Term.static "FormulaSheet" "NAMES" "[LFormulaSheet$Name;") (Jvm.ClassFile.FieldType.object "FormulaSheet$Name")) := by decide +kernel
theorem na_47 : (fs_ands narrow_1)[47]? = some (Jvm.Cond.eq (Jvm.Term.length (Jvm.Term.static "FormulaSheet" "NAMES" "[LFormulaSheet$Name;")) (Jvm.Term.int (8 : Int32))) := by decide +kernel
theorem na_49 : (fs_ands narrow_1)[49]? = some (Jvm.Cond.eq (Jvm.Term.elem (Jvm.Term.static "FormulaSheet" "NAMES" "[LFormulaSheet$Name;") (Jvm.Term.int (0 : Int32))) (Jvm.Term.static "FormulaSheet$Name" "SUM" "LFormulaSheet$Name;")) := by decide +kernel
theorem na_50 : (fs_ands narrow_1)[50]? = some (Jvm.Cond.eq (Jvm.Term.elem (Jvm.Term.static "FormulaSheet" "NAMES" "[LFormulaSheet$Name;") (Jvm.Term.int (1 : Int32))) (Jvm.Term.static "FormulaSheet$Name" "MIN" "LFormulaSheet$Name;")) := by decide +kernel
theorem na_51 : (fs_ands narrow_1)[51]? = some (Jvm.Cond.eq (Jvm.Term.elem (Jvm.Term.static "FormulaSheet" "NAMES" "[LFormulaSheet$Name;") (Jvm.Term.int (2 : Int32))) (Jvm.Term.static "FormulaSheet$Name" "MAX" "LFormulaSheet$Name;")) := by decide +kernel
theorem na_52 : (fs_ands narrow_1)[52]? = some (Jvm.Cond.eq (Jvm.Term.elem (Jvm.Term.static "FormulaSheet" "NAMES" "[LFormulaSheet$Name;") (Jvm.Term.int (3 : Int32))) (Jvm.Term.static "FormulaSheet$Name" "CNT" "LFormulaSheet$Name;")) := by decide +kernel
theorem na_53 : (fs_ands narrow_1)[53]? = some (Jvm.Cond.eq (Jvm.Term.elem (Jvm.Term.static "FormulaSheet" "NAMES" "[LFormulaSheet$Name;") (Jvm.Term.int (4 : Int32))) (Jvm.Term.static "FormulaSheet$Name" "AVG" "LFormulaSheet$Name;")) := by decide +kernel
theorem na_54 : (fs_ands narrow_1)[54]? = some (Jvm.Cond.eq (Jvm.Term.elem (Jvm.Term.static "FormulaSheet" "NAMES" "[LFormulaSheet$Name;") (Jvm.Term.int (5 : Int32))) (Jvm.Term.static "FormulaSheet$Name" "ABS" "LFormulaSheet$Name;")) := by decide +kernel
theorem na_55 : (fs_ands narrow_1)[55]? = some (Jvm.Cond.eq (Jvm.Term.elem (Jvm.Term.static "FormulaSheet" "NAMES" "[LFormulaSheet$Name;") (Jvm.Term.int (6 : Int32))) (Jvm.Term.static "FormulaSheet$Name" "INT" "LFormulaSheet$Name;")) := by decide +kernel
theorem na_56 : (fs_ands narrow_1)[56]? = some (Jvm.Cond.eq (Jvm.Term.elem (Jvm.Term.static "FormulaSheet" "NAMES" "[LFormulaSheet$Name;") (Jvm.Term.int (7 : Int32))) (Jvm.Term.static "FormulaSheet$Name" "IF" "LFormulaSheet$Name;")) := by decide +kernel
theorem na_62 : (fs_ands narrow_1)[62]? = some (Jvm.Cond.arrayOf (Jvm.Term.static "java/lang/Integer" "DigitOnes" "[B") Jvm.ClassFile.FieldType.byte) := by decide +kernel
theorem na_63 : (fs_ands narrow_1)[63]? = some (Jvm.Cond.eq (Jvm.Term.length (Jvm.Term.static "java/lang/Integer" "DigitOnes" "[B")) (Jvm.Term.int (100 : Int32))) := by decide +kernel
theorem na_165 : (fs_ands narrow_1)[165]? = some (Jvm.Cond.arrayOf (Jvm.Term.static "java/lang/Integer" "DigitTens" "[B") Jvm.ClassFile.FieldType.byte) := by decide +kernel
theorem na_166 : (fs_ands narrow_1)[166]? = some (Jvm.Cond.eq (Jvm.Term.length (Jvm.Term.static "java/lang/Integer" "DigitTens" "[B")) (Jvm.Term.int (100 : Int32))) := by decide +kernel
theorem na_269 : (fs_ands narrow_1)[269]? = some (Jvm.Cond.eq (Jvm.Term.field (Jvm.Term.static "FormulaSheet$Name" "AVG" "LFormulaSheet$Name;") "FormulaSheet$Name" "opening" "Ljava/lang/String;") (Jvm.Term.string "FormulaSheet$Name" (71 : Nat))) := by decide +kernel
theorem na_270 : (fs_ands narrow_1)[270]? = some (Jvm.Cond.eq (Jvm.Term.field (Jvm.Term.static "FormulaSheet$Name" "AVG" "LFormulaSheet$Name;") "FormulaSheet$Name" "logics" "I") (Jvm.Term.int (0 : Int32))) := by decide +kernel
theorem na_271 : (fs_ands narrow_1)[271]? = some (Jvm.Cond.not (Jvm.Cond.eq (Jvm.Term.static "FormulaSheet$Name" "CNT" "LFormulaSheet$Name;") (Jvm.Term.static "FormulaSheet$Name" "AVG" "LFormulaSheet$Name;"))) := by decide +kernel
theorem na_272 : (fs_ands narrow_1)[272]? = some (Jvm.Cond.not (Jvm.Cond.eq (Jvm.Term.static "FormulaSheet$Name" "MIN" "LFormulaSheet$Name;") (Jvm.Term.static "FormulaSheet$Name" "AVG" "LFormulaSheet$Name;"))) := by decide +kernel
theorem na_273 : (fs_ands narrow_1)[273]? = some (Jvm.Cond.not (Jvm.Cond.eq (Jvm.Term.static "FormulaSheet$Name" "MAX" "LFormulaSheet$Name;") (Jvm.Term.static "FormulaSheet$Name" "AVG" "LFormulaSheet$Name;"))) := by decide +kernel
theorem na_274 : (fs_ands narrow_1)[274]? = some (Jvm.Cond.not (Jvm.Cond.eq (Jvm.Term.static "FormulaSheet$Name" "SUM" "LFormulaSheet$Name;") (Jvm.Term.static "FormulaSheet$Name" "AVG" "LFormulaSheet$Name;"))) := by decide +kernel
theorem na_275 : (fs_ands narrow_1)[275]? = some (Jvm.Cond.not (Jvm.Cond.eq (Jvm.Term.static "FormulaSheet$Name" "IF" "LFormulaSheet$Name;") (Jvm.Term.static "FormulaSheet$Name" "AVG" "LFormulaSheet$Name;"))) := by decide +kernel
theorem na_276 : (fs_ands narrow_1)[276]? = some (Jvm.Cond.not (Jvm.Cond.eq (Jvm.Term.static "FormulaSheet$Name" "INT" "LFormulaSheet$Name;") (Jvm.Term.static "FormulaSheet$Name" "AVG" "LFormulaSheet$Name;"))) := by decide +kernel
theorem na_279 : (fs_ands narrow_1)[279]? = some (Jvm.Cond.eq (Jvm.Term.field (Jvm.Term.static "FormulaSheet$Name" "ABS" "LFormulaSheet$Name;") "FormulaSheet$Name" "opening" "Ljava/lang/String;") (Jvm.Term.string "FormulaSheet$Name" (74 : Nat))) := by decide +kernel
theorem na_280 : (fs_ands narrow_1)[280]? = some (Jvm.Cond.eq (Jvm.Term.field (Jvm.Term.static "FormulaSheet$Name" "ABS" "LFormulaSheet$Name;") "FormulaSheet$Name" "logics" "I") (Jvm.Term.int (1 : Int32))) := by decide +kernel
theorem na_281 : (fs_ands narrow_1)[281]? = some (Jvm.Cond.not (Jvm.Cond.eq (Jvm.Term.static "FormulaSheet$Name" "CNT" "LFormulaSheet$Name;") (Jvm.Term.static "FormulaSheet$Name" "ABS" "LFormulaSheet$Name;"))) := by decide +kernel
theorem na_282 : (fs_ands narrow_1)[282]? = some (Jvm.Cond.not (Jvm.Cond.eq (Jvm.Term.static "FormulaSheet$Name" "MIN" "LFormulaSheet$Name;") (Jvm.Term.static "FormulaSheet$Name" "ABS" "LFormulaSheet$Name;"))) := by decide +kernel
theorem na_283 : (fs_ands narrow_1)[283]? = some (Jvm.Cond.not (Jvm.Cond.eq (Jvm.Term.static "FormulaSheet$Name" "MAX" "LFormulaSheet$Name;") (Jvm.Term.static "FormulaSheet$Name" "ABS" "LFormulaSheet$Name;"))) := by decide +kernel
theorem na_284 : (fs_ands narrow_1)[284]? = some (Jvm.Cond.not (Jvm.Cond.eq (Jvm.Term.static "FormulaSheet$Name" "SUM" "LFormulaSheet$Name;") (Jvm.Term.static "FormulaSheet$Name" "ABS" "LFormulaSheet$Name;"))) := by decide +kernel
theorem na_285 : (fs_ands narrow_1)[285]? = some (Jvm.Cond.not (Jvm.Cond.eq (Jvm.Term.static "FormulaSheet$Name" "IF" "LFormulaSheet$Name;") (Jvm.Term.static "FormulaSheet$Name" "ABS" "LFormulaSheet$Name;"))) := by decide +kernel
theorem na_286 : (fs_ands narrow_1)[286]? = some (Jvm.Cond.not (Jvm.Cond.eq (Jvm.Term.static "FormulaSheet$Name" "INT" "LFormulaSheet$Name;") (Jvm.Term.static "FormulaSheet$Name" "ABS" "LFormulaSheet$Name;"))) := by decide +kernel
theorem na_287 : (fs_ands narrow_1)[287]? = some (Jvm.Cond.not (Jvm.Cond.eq (Jvm.Term.static "FormulaSheet$Name" "AVG" "LFormulaSheet$Name;") (Jvm.Term.static "FormulaSheet$Name" "ABS" "LFormulaSheet$Name;"))) := by decide +kernel
theorem na_530 : (fs_ands narrow_1)[530]? = some (Jvm.Cond.exactly (Jvm.Term.string "FormulaSheet$Name" (68 : Nat)) "java/lang/String") := by decide +kernel
theorem na_531 : (fs_ands narrow_1)[531]? = some (Jvm.Cond.eq (Jvm.Term.field (Jvm.Term.string "FormulaSheet$Name" (68 : Nat)) "java/lang/String" "coder" "B") (Jvm.Term.int (0 : Int32))) := by decide +kernel
theorem na_532 : (fs_ands narrow_1)[532]? = some (Jvm.Cond.arrayOf (Jvm.Term.field (Jvm.Term.string "FormulaSheet$Name" (68 : Nat)) "java/lang/String" "value" "[B") Jvm.ClassFile.FieldType.byte) := by decide +kernel
theorem na_533 : (fs_ands narrow_1)[533]? = some (Jvm.Cond.eq (Jvm.Term.length (Jvm.Term.field (Jvm.Term.string "FormulaSheet$Name" (68 : Nat)) "java/lang/String" "value" "[B")) (Jvm.Term.int (4 : Int32))) := by decide +kernel
theorem na_534 : (fs_ands narrow_1)[534]? = some (Jvm.Cond.eq (Jvm.Term.elem (Jvm.Term.field (Jvm.Term.string "FormulaSheet$Name" (68 : Nat)) "java/lang/String" "value" "[B") (Jvm.Term.int (0 : Int32))) (Jvm.Term.int (99 : Int32))) := by decide +kernel
theorem na_535 : (fs_ands narrow_1)[535]? = some (Jvm.Cond.eq (Jvm.Term.elem (Jvm.Term.field (Jvm.Term.string "FormulaSheet$Name" (68 : Nat)) "java/lang/String" "value" "[B") (Jvm.Term.int (1 : Int32))) (Jvm.Term.int (110 : Int32))) := by decide +kernel
theorem na_536 : (fs_ands narrow_1)[536]? = some (Jvm.Cond.eq (Jvm.Term.elem (Jvm.Term.field (Jvm.Term.string "FormulaSheet$Name" (68 : Nat)) "java/lang/String" "value" "[B") (Jvm.Term.int (2 : Int32))) (Jvm.Term.int (116 : Int32))) := by decide +kernel
theorem na_537 : (fs_ands narrow_1)[537]? = some (Jvm.Cond.eq (Jvm.Term.elem (Jvm.Term.field (Jvm.Term.string "FormulaSheet$Name" (68 : Nat)) "java/lang/String" "value" "[B") (Jvm.Term.int (3 : Int32))) (Jvm.Term.int (40 : Int32))) := by decide +kernel
theorem na_544 : (fs_ands narrow_1)[544]? = some (Jvm.Cond.exactly (Jvm.Term.string "FormulaSheet$Name" (62 : Nat)) "java/lang/String") := by decide +kernel
theorem na_545 : (fs_ands narrow_1)[545]? = some (Jvm.Cond.eq (Jvm.Term.field (Jvm.Term.string "FormulaSheet$Name" (62 : Nat)) "java/lang/String" "coder" "B") (Jvm.Term.int (0 : Int32))) := by decide +kernel
theorem na_546 : (fs_ands narrow_1)[546]? = some (Jvm.Cond.arrayOf (Jvm.Term.field (Jvm.Term.string "FormulaSheet$Name" (62 : Nat)) "java/lang/String" "value" "[B") Jvm.ClassFile.FieldType.byte) := by decide +kernel
theorem na_547 : (fs_ands narrow_1)[547]? = some (Jvm.Cond.eq (Jvm.Term.length (Jvm.Term.field (Jvm.Term.string "FormulaSheet$Name" (62 : Nat)) "java/lang/String" "value" "[B")) (Jvm.Term.int (4 : Int32))) := by decide +kernel
theorem na_548 : (fs_ands narrow_1)[548]? = some (Jvm.Cond.eq (Jvm.Term.elem (Jvm.Term.field (Jvm.Term.string "FormulaSheet$Name" (62 : Nat)) "java/lang/String" "value" "[B") (Jvm.Term.int (0 : Int32))) (Jvm.Term.int (109 : Int32))) := by decide +kernel
theorem na_549 : (fs_ands narrow_1)[549]? = some (Jvm.Cond.eq (Jvm.Term.elem (Jvm.Term.field (Jvm.Term.string "FormulaSheet$Name" (62 : Nat)) "java/lang/String" "value" "[B") (Jvm.Term.int (1 : Int32))) (Jvm.Term.int (105 : Int32))) := by decide +kernel
theorem na_550 : (fs_ands narrow_1)[550]? = some (Jvm.Cond.eq (Jvm.Term.elem (Jvm.Term.field (Jvm.Term.string "FormulaSheet$Name" (62 : Nat)) "java/lang/String" "value" "[B") (Jvm.Term.int (2 : Int32))) (Jvm.Term.int (110 : Int32))) := by decide +kernel
theorem na_551 : (fs_ands narrow_1)[551]? = some (Jvm.Cond.eq (Jvm.Term.elem (Jvm.Term.field (Jvm.Term.string "FormulaSheet$Name" (62 : Nat)) "java/lang/String" "value" "[B") (Jvm.Term.int (3 : Int32))) (Jvm.Term.int (40 : Int32))) := by decide +kernel
theorem na_559 : (fs_ands narrow_1)[559]? = some (Jvm.Cond.exactly (Jvm.Term.string "FormulaSheet$Name" (65 : Nat)) "java/lang/String") := by decide +kernel
theorem na_560 : (fs_ands narrow_1)[560]? = some (Jvm.Cond.eq (Jvm.Term.field (Jvm.Term.string "FormulaSheet$Name" (65 : Nat)) "java/lang/String" "coder" "B") (Jvm.Term.int (0 : Int32))) := by decide +kernel
theorem na_561 : (fs_ands narrow_1)[561]? = some (Jvm.Cond.arrayOf (Jvm.Term.field (Jvm.Term.string "FormulaSheet$Name" (65 : Nat)) "java/lang/String" "value" "[B") Jvm.ClassFile.FieldType.byte) := by decide +kernel
theorem na_562 : (fs_ands narrow_1)[562]? = some (Jvm.Cond.eq (Jvm.Term.length (Jvm.Term.field (Jvm.Term.string "FormulaSheet$Name" (65 : Nat)) "java/lang/String" "value" "[B")) (Jvm.Term.int (4 : Int32))) := by decide +kernel
theorem na_563 : (fs_ands narrow_1)[563]? = some (Jvm.Cond.eq (Jvm.Term.elem (Jvm.Term.field (Jvm.Term.string "FormulaSheet$Name" (65 : Nat)) "java/lang/String" "value" "[B") (Jvm.Term.int (0 : Int32))) (Jvm.Term.int (109 : Int32))) := by decide +kernel
theorem na_564 : (fs_ands narrow_1)[564]? = some (Jvm.Cond.eq (Jvm.Term.elem (Jvm.Term.field (Jvm.Term.string "FormulaSheet$Name" (65 : Nat)) "java/lang/String" "value" "[B") (Jvm.Term.int (1 : Int32))) (Jvm.Term.int (97 : Int32))) := by decide +kernel
theorem na_565 : (fs_ands narrow_1)[565]? = some (Jvm.Cond.eq (Jvm.Term.elem (Jvm.Term.field (Jvm.Term.string "FormulaSheet$Name" (65 : Nat)) "java/lang/String" "value" "[B") (Jvm.Term.int (2 : Int32))) (Jvm.Term.int (120 : Int32))) := by decide +kernel
theorem na_566 : (fs_ands narrow_1)[566]? = some (Jvm.Cond.eq (Jvm.Term.elem (Jvm.Term.field (Jvm.Term.string "FormulaSheet$Name" (65 : Nat)) "java/lang/String" "value" "[B") (Jvm.Term.int (3 : Int32))) (Jvm.Term.int (40 : Int32))) := by decide +kernel
theorem na_575 : (fs_ands narrow_1)[575]? = some (Jvm.Cond.exactly (Jvm.Term.string "FormulaSheet$Name" (56 : Nat)) "java/lang/String") := by decide +kernel
theorem na_576 : (fs_ands narrow_1)[576]? = some (Jvm.Cond.eq (Jvm.Term.field (Jvm.Term.string "FormulaSheet$Name" (56 : Nat)) "java/lang/String" "coder" "B") (Jvm.Term.int (0 : Int32))) := by decide +kernel
theorem na_577 : (fs_ands narrow_1)[577]? = some (Jvm.Cond.arrayOf (Jvm.Term.field (Jvm.Term.string "FormulaSheet$Name" (56 : Nat)) "java/lang/String" "value" "[B") Jvm.ClassFile.FieldType.byte) := by decide +kernel
theorem na_578 : (fs_ands narrow_1)[578]? = some (Jvm.Cond.eq (Jvm.Term.length (Jvm.Term.field (Jvm.Term.string "FormulaSheet$Name" (56 : Nat)) "java/lang/String" "value" "[B")) (Jvm.Term.int (4 : Int32))) := by decide +kernel
theorem na_579 : (fs_ands narrow_1)[579]? = some (Jvm.Cond.eq (Jvm.Term.elem (Jvm.Term.field (Jvm.Term.string "FormulaSheet$Name" (56 : Nat)) "java/lang/String" "value" "[B") (Jvm.Term.int (0 : Int32))) (Jvm.Term.int (115 : Int32))) := by decide +kernel
theorem na_580 : (fs_ands narrow_1)[580]? = some (Jvm.Cond.eq (Jvm.Term.elem (Jvm.Term.field (Jvm.Term.string "FormulaSheet$Name" (56 : Nat)) "java/lang/String" "value" "[B") (Jvm.Term.int (1 : Int32))) (Jvm.Term.int (117 : Int32))) := by decide +kernel
theorem na_581 : (fs_ands narrow_1)[581]? = some (Jvm.Cond.eq (Jvm.Term.elem (Jvm.Term.field (Jvm.Term.string "FormulaSheet$Name" (56 : Nat)) "java/lang/String" "value" "[B") (Jvm.Term.int (2 : Int32))) (Jvm.Term.int (109 : Int32))) := by decide +kernel
theorem na_582 : (fs_ands narrow_1)[582]? = some (Jvm.Cond.eq (Jvm.Term.elem (Jvm.Term.field (Jvm.Term.string "FormulaSheet$Name" (56 : Nat)) "java/lang/String" "value" "[B") (Jvm.Term.int (3 : Int32))) (Jvm.Term.int (40 : Int32))) := by decide +kernel
theorem na_592 : (fs_ands narrow_1)[592]? = some (Jvm.Cond.exactly (Jvm.Term.string "FormulaSheet$Name" (80 : Nat)) "java/lang/String") := by decide +kernel
theorem na_593 : (fs_ands narrow_1)[593]? = some (Jvm.Cond.eq (Jvm.Term.field (Jvm.Term.string "FormulaSheet$Name" (80 : Nat)) "java/lang/String" "coder" "B") (Jvm.Term.int (0 : Int32))) := by decide +kernel
theorem na_594 : (fs_ands narrow_1)[594]? = some (Jvm.Cond.arrayOf (Jvm.Term.field (Jvm.Term.string "FormulaSheet$Name" (80 : Nat)) "java/lang/String" "value" "[B") Jvm.ClassFile.FieldType.byte) := by decide +kernel
theorem na_595 : (fs_ands narrow_1)[595]? = some (Jvm.Cond.eq (Jvm.Term.length (Jvm.Term.field (Jvm.Term.string "FormulaSheet$Name" (80 : Nat)) "java/lang/String" "value" "[B")) (Jvm.Term.int (3 : Int32))) := by decide +kernel
theorem na_596 : (fs_ands narrow_1)[596]? = some (Jvm.Cond.eq (Jvm.Term.elem (Jvm.Term.field (Jvm.Term.string "FormulaSheet$Name" (80 : Nat)) "java/lang/String" "value" "[B") (Jvm.Term.int (0 : Int32))) (Jvm.Term.int (105 : Int32))) := by decide +kernel
theorem na_597 : (fs_ands narrow_1)[597]? = some (Jvm.Cond.eq (Jvm.Term.elem (Jvm.Term.field (Jvm.Term.string "FormulaSheet$Name" (80 : Nat)) "java/lang/String" "value" "[B") (Jvm.Term.int (1 : Int32))) (Jvm.Term.int (102 : Int32))) := by decide +kernel
theorem na_598 : (fs_ands narrow_1)[598]? = some (Jvm.Cond.eq (Jvm.Term.elem (Jvm.Term.field (Jvm.Term.string "FormulaSheet$Name" (80 : Nat)) "java/lang/String" "value" "[B") (Jvm.Term.int (2 : Int32))) (Jvm.Term.int (40 : Int32))) := by decide +kernel
theorem na_609 : (fs_ands narrow_1)[609]? = some (Jvm.Cond.exactly (Jvm.Term.string "FormulaSheet$Name" (77 : Nat)) "java/lang/String") := by decide +kernel
theorem na_610 : (fs_ands narrow_1)[610]? = some (Jvm.Cond.eq (Jvm.Term.field (Jvm.Term.string "FormulaSheet$Name" (77 : Nat)) "java/lang/String" "coder" "B") (Jvm.Term.int (0 : Int32))) := by decide +kernel
theorem na_611 : (fs_ands narrow_1)[611]? = some (Jvm.Cond.arrayOf (Jvm.Term.field (Jvm.Term.string "FormulaSheet$Name" (77 : Nat)) "java/lang/String" "value" "[B") Jvm.ClassFile.FieldType.byte) := by decide +kernel
theorem na_612 : (fs_ands narrow_1)[612]? = some (Jvm.Cond.eq (Jvm.Term.length (Jvm.Term.field (Jvm.Term.string "FormulaSheet$Name" (77 : Nat)) "java/lang/String" "value" "[B")) (Jvm.Term.int (4 : Int32))) := by decide +kernel
theorem na_613 : (fs_ands narrow_1)[613]? = some (Jvm.Cond.eq (Jvm.Term.elem (Jvm.Term.field (Jvm.Term.string "FormulaSheet$Name" (77 : Nat)) "java/lang/String" "value" "[B") (Jvm.Term.int (0 : Int32))) (Jvm.Term.int (105 : Int32))) := by decide +kernel
theorem na_614 : (fs_ands narrow_1)[614]? = some (Jvm.Cond.eq (Jvm.Term.elem (Jvm.Term.field (Jvm.Term.string "FormulaSheet$Name" (77 : Nat)) "java/lang/String" "value" "[B") (Jvm.Term.int (1 : Int32))) (Jvm.Term.int (110 : Int32))) := by decide +kernel
theorem na_615 : (fs_ands narrow_1)[615]? = some (Jvm.Cond.eq (Jvm.Term.elem (Jvm.Term.field (Jvm.Term.string "FormulaSheet$Name" (77 : Nat)) "java/lang/String" "value" "[B") (Jvm.Term.int (2 : Int32))) (Jvm.Term.int (116 : Int32))) := by decide +kernel
theorem na_616 : (fs_ands narrow_1)[616]? = some (Jvm.Cond.eq (Jvm.Term.elem (Jvm.Term.field (Jvm.Term.string "FormulaSheet$Name" (77 : Nat)) "java/lang/String" "value" "[B") (Jvm.Term.int (3 : Int32))) (Jvm.Term.int (40 : Int32))) := by decide +kernel
theorem na_628 : (fs_ands narrow_1)[628]? = some (Jvm.Cond.exactly (Jvm.Term.string "FormulaSheet$Name" (71 : Nat)) "java/lang/String") := by decide +kernel
theorem na_629 : (fs_ands narrow_1)[629]? = some (Jvm.Cond.eq (Jvm.Term.field (Jvm.Term.string "FormulaSheet$Name" (71 : Nat)) "java/lang/String" "coder" "B") (Jvm.Term.int (0 : Int32))) := by decide +kernel
theorem na_630 : (fs_ands narrow_1)[630]? = some (Jvm.Cond.arrayOf (Jvm.Term.field (Jvm.Term.string "FormulaSheet$Name" (71 : Nat)) "java/lang/String" "value" "[B") Jvm.ClassFile.FieldType.byte) := by decide +kernel
theorem na_631 : (fs_ands narrow_1)[631]? = some (Jvm.Cond.eq (Jvm.Term.length (Jvm.Term.field (Jvm.Term.string "FormulaSheet$Name" (71 : Nat)) "java/lang/String" "value" "[B")) (Jvm.Term.int (4 : Int32))) := by decide +kernel
theorem na_632 : (fs_ands narrow_1)[632]? = some (Jvm.Cond.eq (Jvm.Term.elem (Jvm.Term.field (Jvm.Term.string "FormulaSheet$Name" (71 : Nat)) "java/lang/String" "value" "[B") (Jvm.Term.int (0 : Int32))) (Jvm.Term.int (97 : Int32))) := by decide +kernel
theorem na_633 : (fs_ands narrow_1)[633]? = some (Jvm.Cond.eq (Jvm.Term.elem (Jvm.Term.field (Jvm.Term.string "FormulaSheet$Name" (71 : Nat)) "java/lang/String" "value" "[B") (Jvm.Term.int (1 : Int32))) (Jvm.Term.int (118 : Int32))) := by decide +kernel
theorem na_634 : (fs_ands narrow_1)[634]? = some (Jvm.Cond.eq (Jvm.Term.elem (Jvm.Term.field (Jvm.Term.string "FormulaSheet$Name" (71 : Nat)) "java/lang/String" "value" "[B") (Jvm.Term.int (2 : Int32))) (Jvm.Term.int (103 : Int32))) := by decide +kernel
theorem na_635 : (fs_ands narrow_1)[635]? = some (Jvm.Cond.eq (Jvm.Term.elem (Jvm.Term.field (Jvm.Term.string "FormulaSheet$Name" (71 : Nat)) "java/lang/String" "value" "[B") (Jvm.Term.int (3 : Int32))) (Jvm.Term.int (40 : Int32))) := by decide +kernel
theorem na_648 : (fs_ands narrow_1)[648]? = some (Jvm.Cond.exactly (Jvm.Term.string "FormulaSheet$Name" (74 : Nat)) "java/lang/String") := by decide +kernel
theorem na_649 : (fs_ands narrow_1)[649]? = some (Jvm.Cond.eq (Jvm.Term.field (Jvm.Term.string "FormulaSheet$Name" (74 : Nat)) "java/lang/String" "coder" "B") (Jvm.Term.int (0 : Int32))) := by decide +kernel
theorem na_650 : (fs_ands narrow_1)[650]? = some (Jvm.Cond.arrayOf (Jvm.Term.field (Jvm.Term.string "FormulaSheet$Name" (74 : Nat)) "java/lang/String" "value" "[B") Jvm.ClassFile.FieldType.byte) := by decide +kernel
theorem na_651 : (fs_ands narrow_1)[651]? = some (Jvm.Cond.eq (Jvm.Term.length (Jvm.Term.field (Jvm.Term.string "FormulaSheet$Name" (74 : Nat)) "java/lang/String" "value" "[B")) (Jvm.Term.int (4 : Int32))) := by decide +kernel
theorem na_652 : (fs_ands narrow_1)[652]? = some (Jvm.Cond.eq (Jvm.Term.elem (Jvm.Term.field (Jvm.Term.string "FormulaSheet$Name" (74 : Nat)) "java/lang/String" "value" "[B") (Jvm.Term.int (0 : Int32))) (Jvm.Term.int (97 : Int32))) := by decide +kernel
theorem na_653 : (fs_ands narrow_1)[653]? = some (Jvm.Cond.eq (Jvm.Term.elem (Jvm.Term.field (Jvm.Term.string "FormulaSheet$Name" (74 : Nat)) "java/lang/String" "value" "[B") (Jvm.Term.int (1 : Int32))) (Jvm.Term.int (98 : Int32))) := by decide +kernel
theorem na_654 : (fs_ands narrow_1)[654]? = some (Jvm.Cond.eq (Jvm.Term.elem (Jvm.Term.field (Jvm.Term.string "FormulaSheet$Name" (74 : Nat)) "java/lang/String" "value" "[B") (Jvm.Term.int (2 : Int32))) (Jvm.Term.int (115 : Int32))) := by decide +kernel
theorem na_655 : (fs_ands narrow_1)[655]? = some (Jvm.Cond.eq (Jvm.Term.elem (Jvm.Term.field (Jvm.Term.string "FormulaSheet$Name" (74 : Nat)) "java/lang/String" "value" "[B") (Jvm.Term.int (3 : Int32))) (Jvm.Term.int (40 : Int32))) := by decide +kernel
theorem tw_519 : lw_tbl[519]? = some (Jvm.Cond.laysStatic "java/lang/Throwable" "UNASSIGNED_STACK" "[Ljava/lang/StackTraceElement;") := by decide +kernel
theorem tw_521 : lw_tbl[521]? = some (Jvm.Cond.laysStatic "java/lang/Throwable" "SUPPRESSED_SENTINEL" "Ljava/util/List;") := by decide +kernel
theorem fs_open {l : Launch} {s00 : State} {E : fs_E} (hE : fs_SE l s00 E) : ∀ j : Nat, j < 8 → va_OF "FormulaSheet$Name" "opening" "Ljava/lang/String;" (.ref (E.2 (16 + j))) (E.2 j) (fs_A s00) s00 s00.heap ∧ va_OF "FormulaSheet$Name" "logics" "I" (.int (fs_lg j)) (E.2 j) (fs_A s00) s00 s00.heap := by
  obtain ⟨b, h0, h1⟩ := hE.1.nar
  intro j hj
  have h8 : j = 0 ∨ j = 1 ∨ j = 2 ∨ j = 3 ∨ j = 4 ∨ j = 5 ∨ j = 6 ∨ j = 7 := by omega
  rcases h8 with rfl | rfl | rfl | rfl | rfl | rfl | rfl | rfl
  · exact ⟨vk_OFof (hE.2 0 _ rfl _) (fs_eqr (fs_na h1 20 na_20) (hE.2 16 _ rfl _)) fs_nA, vk_OFof (hE.2 0 _ rfl _) (va_eqt (fs_na h1 21 na_21)) fs_nA⟩
  · exact ⟨vk_OFof (hE.2 1 _ rfl _) (fs_eqr (fs_na h1 9 na_9) (hE.2 17 _ rfl _)) fs_nA, vk_OFof (hE.2 1 _ rfl _) (va_eqt (fs_na h1 10 na_10)) fs_nA⟩
  · exact ⟨vk_OFof (hE.2 2 _ rfl _) (fs_eqr (fs_na h1 14 na_14) (hE.2 18 _ rfl _)) fs_nA, vk_OFof (hE.2 2 _ rfl _) (va_eqt (fs_na h1 15 na_15)) fs_nA⟩
  · exact ⟨vk_OFof (hE.2 3 _ rfl _) (fs_eqr (fs_na h1 5 na_5) (hE.2 19 _ rfl _)) fs_nA, vk_OFof (hE.2 3 _ rfl _) (va_eqt (fs_na h1 6 na_6)) fs_nA⟩
  · exact ⟨vk_OFof (hE.2 4 _ rfl _) (fs_eqr (fs_na h1 269 na_269) (hE.2 20 _ rfl _)) fs_nA, vk_OFof (hE.2 4 _ rfl _) (va_eqt (fs_na h1 270 na_270)) fs_nA⟩
  · exact ⟨vk_OFof (hE.2 5 _ rfl _) (fs_eqr (fs_na h1 279 na_279) (hE.2 21 _ rfl _)) fs_nA, vk_OFof (hE.2 5 _ rfl _) (va_eqt (fs_na h1 280 na_280)) fs_nA⟩
  · exact ⟨vk_OFof (hE.2 6 _ rfl _) (fs_eqr (fs_na h1 35 na_35) (hE.2 22 _ rfl _)) fs_nA, vk_OFof (hE.2 6 _ rfl _) (va_eqt (fs_na h1 36 na_36)) fs_nA⟩
  · exact ⟨vk_OFof (hE.2 7 _ rfl _) (fs_eqr (fs_na h1 27 na_27) (hE.2 23 _ rfl _)) fs_nA, vk_OFof (hE.2 7 _ rfl _) (va_eqt (fs_na h1 28 na_28)) fs_nA⟩
theorem fs_text {l : Launch} {s00 : State} {E : fs_E} (hE : fs_SE l s00 E) : ∀ j : Nat, j < 8 → va_O "java/lang/String" (E.2 (16 + j)) (fs_A s00) s00 s00.heap ∧ va_OF "java/lang/String" "coder" "B" (.int 0) (E.2 (16 + j)) (fs_A s00) s00 s00.heap ∧ va_OF "java/lang/String" "value" "[B" (.ref (E.2 (24 + j))) (E.2 (16 + j)) (fs_A s00) s00 s00.heap ∧ va_T .byte (E.2 (24 + j)) (fs_ob j).length (fun k => .int ((fs_ob j).getD k 0)) (fs_A s00) s00 s00.heap := by
  obtain ⟨b, h0, h1⟩ := hE.1.nar
  have key : ∀ (k : Nat) (tm : Term) (L : List Int32) (a v : Nat), tm.eval #[Value.ref b] s00 none [] s00 = some (.ref a) → (Term.field tm "java/lang/String" "value" "[B").eval #[Value.ref b] s00 none [] s00 = some (.ref v) → (Cond.exactly tm "java/lang/String").before #[Value.ref b] s00 = true → (Cond.eq (.field tm "java/lang/String" "coder" "B") (.int 0)).before #[Value.ref b] s00 = true → (Cond.arrayOf (.field tm "java/lang/String" "value" "[B") .byte).before #[Value.ref b] s00 = true → L.length < 5 → (Cond.eq (.length (.field tm "java/lang/String" "value" "[B")) (.int (Int32.ofNat L.length))).before #[Value.ref b] s00 = true → (∀ i : Nat, i < L.length → (Cond.eq (.elem (.field tm "java/lang/String" "value" "[B") (.int (Int32.ofNat i))) (.int (L.getD i 0))).before #[Value.ref b] s00 = true) →
      va_O "java/lang/String" a (fs_A s00) s00 s00.heap ∧ va_OF "java/lang/String" "coder" "B" (.int 0) a (fs_A s00) s00 s00.heap ∧ va_OF "java/lang/String" "value" "[B" (.ref v) a (fs_A s00) s00 s00.heap ∧ va_T .byte v L.length (fun k => .int (L.getD k 0)) (fs_A s00) s00 s00.heap := by
    intro k tm L a v ha hv hex hco har hL hle hel
    obtain ⟨a', c, cA, kA, q1, q2, q3, q4, q5, q6, -⟩ := Cond.exactly_spec (args := #[Value.ref b]) (first := s00) (o := none) (s := s00) (idx := []) (t := tm) (cls := "java/lang/String") hex
    cases Option.some.inj (q1.symm.trans ha)
    obtain ⟨t, ht, hT⟩ := va_Tof (f := fun j => .int (L.getD j 0)) (A := fs_A s00) (N := L.length) (by omega) har (va_eqt hle) (fun j hj => va_eqt (hel j hj)) fs_nA
    cases Option.some.inj (ht.symm.trans hv)
    exact ⟨⟨cA, q3, q5, by rw [q6]; exact q2, fs_nA _ (Array.getElem?_eq_some_iff.mp q3).1⟩, vk_OFof ha (va_eqt hco) fs_nA, vk_OFof ha hv fs_nA, hT⟩
  intro j hj
  have h8 : j = 0 ∨ j = 1 ∨ j = 2 ∨ j = 3 ∨ j = 4 ∨ j = 5 ∨ j = 6 ∨ j = 7 := by omega
  rcases h8 with rfl | rfl | rfl | rfl | rfl | rfl | rfl | rfl
  · refine key 0 _ (fs_ob 0) _ _ (hE.2 16 _ rfl _) (hE.2 24 _ rfl _) (fs_na h1 575 na_575) (fs_na h1 576 na_576) (fs_na h1 577 na_577) (by decide) (fs_na h1 578 na_578) (fun i hi => ?_)
    have h9 : i = 0 ∨ i = 1 ∨ i = 2 ∨ i = 3 := by have h7 : i < 4 := hi; omega
    rcases h9 with rfl | rfl | rfl | rfl
    · exact (fs_na h1 579 na_579)
    · exact (fs_na h1 580 na_580)
    · exact (fs_na h1 581 na_581)
    · exact (fs_na h1 582 na_582)
  · refine key 1 _ (fs_ob 1) _ _ (hE.2 17 _ rfl _) (hE.2 25 _ rfl _) (fs_na h1 544 na_544) (fs_na h1 545 na_545) (fs_na h1 546 na_546) (by decide) (fs_na h1 547 na_547) (fun i hi => ?_)
    have h9 : i = 0 ∨ i = 1 ∨ i = 2 ∨ i = 3 := by have h7 : i < 4 := hi; omega
    rcases h9 with rfl | rfl | rfl | rfl
    · exact (fs_na h1 548 na_548)
    · exact (fs_na h1 549 na_549)
    · exact (fs_na h1 550 na_550)
    · exact (fs_na h1 551 na_551)
  · refine key 2 _ (fs_ob 2) _ _ (hE.2 18 _ rfl _) (hE.2 26 _ rfl _) (fs_na h1 559 na_559) (fs_na h1 560 na_560) (fs_na h1 561 na_561) (by decide) (fs_na h1 562 na_562) (fun i hi => ?_)
    have h9 : i = 0 ∨ i = 1 ∨ i = 2 ∨ i = 3 := by have h7 : i < 4 := hi; omega
    rcases h9 with rfl | rfl | rfl | rfl
    · exact (fs_na h1 563 na_563)
    · exact (fs_na h1 564 na_564)
    · exact (fs_na h1 565 na_565)
    · exact (fs_na h1 566 na_566)
  · refine key 3 _ (fs_ob 3) _ _ (hE.2 19 _ rfl _) (hE.2 27 _ rfl _) (fs_na h1 530 na_530) (fs_na h1 531 na_531) (fs_na h1 532 na_532) (by decide) (fs_na h1 533 na_533) (fun i hi => ?_)
    have h9 : i = 0 ∨ i = 1 ∨ i = 2 ∨ i = 3 := by have h7 : i < 4 := hi; omega
    rcases h9 with rfl | rfl | rfl | rfl
    · exact (fs_na h1 534 na_534)
    · exact (fs_na h1 535 na_535)
    · exact (fs_na h1 536 na_536)
    · exact (fs_na h1 537 na_537)
  · refine key 4 _ (fs_ob 4) _ _ (hE.2 20 _ rfl _) (hE.2 28 _ rfl _) (fs_na h1 628 na_628) (fs_na h1 629 na_629) (fs_na h1 630 na_630) (by decide) (fs_na h1 631 na_631) (fun i hi => ?_)
    have h9 : i = 0 ∨ i = 1 ∨ i = 2 ∨ i = 3 := by have h7 : i < 4 := hi; omega
    rcases h9 with rfl | rfl | rfl | rfl
    · exact (fs_na h1 632 na_632)
    · exact (fs_na h1 633 na_633)
    · exact (fs_na h1 634 na_634)
    · exact (fs_na h1 635 na_635)
  · refine key 5 _ (fs_ob 5) _ _ (hE.2 21 _ rfl _) (hE.2 29 _ rfl _) (fs_na h1 648 na_648) (fs_na h1 649 na_649) (fs_na h1 650 na_650) (by decide) (fs_na h1 651 na_651) (fun i hi => ?_)
    have h9 : i = 0 ∨ i = 1 ∨ i = 2 ∨ i = 3 := by have h7 : i < 4 := hi; omega
    rcases h9 with rfl | rfl | rfl | rfl
    · exact (fs_na h1 652 na_652)
    · exact (fs_na h1 653 na_653)
    · exact (fs_na h1 654 na_654)
    · exact (fs_na h1 655 na_655)
  · refine key 6 _ (fs_ob 6) _ _ (hE.2 22 _ rfl _) (hE.2 30 _ rfl _) (fs_na h1 609 na_609) (fs_na h1 610 na_610) (fs_na h1 611 na_611) (by decide) (fs_na h1 612 na_612) (fun i hi => ?_)
    have h9 : i = 0 ∨ i = 1 ∨ i = 2 ∨ i = 3 := by have h7 : i < 4 := hi; omega
    rcases h9 with rfl | rfl | rfl | rfl
    · exact (fs_na h1 613 na_613)
    · exact (fs_na h1 614 na_614)
    · exact (fs_na h1 615 na_615)
    · exact (fs_na h1 616 na_616)
  · refine key 7 _ (fs_ob 7) _ _ (hE.2 23 _ rfl _) (hE.2 31 _ rfl _) (fs_na h1 592 na_592) (fs_na h1 593 na_593) (fs_na h1 594 na_594) (by decide) (fs_na h1 595 na_595) (fun i hi => ?_)
    have h9 : i = 0 ∨ i = 1 ∨ i = 2 := by have h7 : i < 3 := hi; omega
    rcases h9 with rfl | rfl | rfl
    · exact (fs_na h1 596 na_596)
    · exact (fs_na h1 597 na_597)
    · exact (fs_na h1 598 na_598)
theorem fs_all {l : Launch} {s00 : State} {E : fs_E} (hE : fs_SE l s00 E) : va_T (.object "FormulaSheet$Name") (E.2 8) 8 (fun k => .ref (E.2 k)) (fs_A s00) s00 s00.heap := by
  obtain ⟨b, h0, h1⟩ := hE.1.nar
  have hel : ∀ j : Nat, j < 8 → (Term.elem (Jvm.Term.static "FormulaSheet" "NAMES" "[LFormulaSheet$Name;") (.int (Int32.ofNat j))).eval #[Value.ref b] s00 none [] s00 = some (.ref (E.2 j)) := by
    intro j hj
    have h8 : j = 0 ∨ j = 1 ∨ j = 2 ∨ j = 3 ∨ j = 4 ∨ j = 5 ∨ j = 6 ∨ j = 7 := by omega
    rcases h8 with rfl | rfl | rfl | rfl | rfl | rfl | rfl | rfl
    · exact fs_eqr (fs_na h1 49 na_49) (hE.2 0 _ rfl _)
    · exact fs_eqr (fs_na h1 50 na_50) (hE.2 1 _ rfl _)
    · exact fs_eqr (fs_na h1 51 na_51) (hE.2 2 _ rfl _)
    · exact fs_eqr (fs_na h1 52 na_52) (hE.2 3 _ rfl _)
    · exact fs_eqr (fs_na h1 53 na_53) (hE.2 4 _ rfl _)
    · exact fs_eqr (fs_na h1 54 na_54) (hE.2 5 _ rfl _)
    · exact fs_eqr (fs_na h1 55 na_55) (hE.2 6 _ rfl _)
    · exact fs_eqr (fs_na h1 56 na_56) (hE.2 7 _ rfl _)
  obtain ⟨t, ht, hT⟩ := va_Tof (args := #[Value.ref b]) (s := s00) (tm := (Jvm.Term.static "FormulaSheet" "NAMES" "[LFormulaSheet$Name;")) (ty := .object "FormulaSheet$Name") (f := fun k => .ref (E.2 k)) (A := fs_A s00) (N := 8) (by decide) (fs_na h1 46 na_46) (va_eqt (fs_na h1 47 na_47)) hel fs_nA
  cases Option.some.inj (ht.symm.trans (hE.2 8 _ rfl _))
  exact hT
theorem fs_inj {l : Launch} {s00 : State} {E : fs_E} (hE : fs_SE l s00 E) : ∀ i j : Nat, i < 8 → j < 8 → E.2 i = E.2 j → i = j := by
  obtain ⟨b, h0, h1⟩ := hE.1.nar
  have key : ∀ i j : Nat, i < j → j < 8 → E.2 i ≠ E.2 j := by
    intro i j hij hj
    have h8 : j = 1 ∨ j = 2 ∨ j = 3 ∨ j = 4 ∨ j = 5 ∨ j = 6 ∨ j = 7 := by omega
    rcases h8 with rfl | rfl | rfl | rfl | rfl | rfl | rfl
    · have h9 : i = 0 := by omega
      rcases h9 with rfl
      · exact (va_neR (fs_na h1 23 na_23) (hE.2 1 _ rfl _) (hE.2 0 _ rfl _)).symm
    · have h9 : i = 0 ∨ i = 1 := by omega
      rcases h9 with rfl | rfl
      · exact (va_neR (fs_na h1 24 na_24) (hE.2 2 _ rfl _) (hE.2 0 _ rfl _)).symm
      · exact va_neR (fs_na h1 17 na_17) (hE.2 1 _ rfl _) (hE.2 2 _ rfl _)
    · have h9 : i = 0 ∨ i = 1 ∨ i = 2 := by omega
      rcases h9 with rfl | rfl | rfl
      · exact (va_neR (fs_na h1 22 na_22) (hE.2 3 _ rfl _) (hE.2 0 _ rfl _)).symm
      · exact (va_neR (fs_na h1 11 na_11) (hE.2 3 _ rfl _) (hE.2 1 _ rfl _)).symm
      · exact (va_neR (fs_na h1 16 na_16) (hE.2 3 _ rfl _) (hE.2 2 _ rfl _)).symm
    · have h9 : i = 0 ∨ i = 1 ∨ i = 2 ∨ i = 3 := by omega
      rcases h9 with rfl | rfl | rfl | rfl
      · exact va_neR (fs_na h1 274 na_274) (hE.2 0 _ rfl _) (hE.2 4 _ rfl _)
      · exact va_neR (fs_na h1 272 na_272) (hE.2 1 _ rfl _) (hE.2 4 _ rfl _)
      · exact va_neR (fs_na h1 273 na_273) (hE.2 2 _ rfl _) (hE.2 4 _ rfl _)
      · exact va_neR (fs_na h1 271 na_271) (hE.2 3 _ rfl _) (hE.2 4 _ rfl _)
    · have h9 : i = 0 ∨ i = 1 ∨ i = 2 ∨ i = 3 ∨ i = 4 := by omega
      rcases h9 with rfl | rfl | rfl | rfl | rfl
      · exact va_neR (fs_na h1 284 na_284) (hE.2 0 _ rfl _) (hE.2 5 _ rfl _)
      · exact va_neR (fs_na h1 282 na_282) (hE.2 1 _ rfl _) (hE.2 5 _ rfl _)
      · exact va_neR (fs_na h1 283 na_283) (hE.2 2 _ rfl _) (hE.2 5 _ rfl _)
      · exact va_neR (fs_na h1 281 na_281) (hE.2 3 _ rfl _) (hE.2 5 _ rfl _)
      · exact va_neR (fs_na h1 287 na_287) (hE.2 4 _ rfl _) (hE.2 5 _ rfl _)
    · have h9 : i = 0 ∨ i = 1 ∨ i = 2 ∨ i = 3 ∨ i = 4 ∨ i = 5 := by omega
      rcases h9 with rfl | rfl | rfl | rfl | rfl | rfl
      · exact va_neR (fs_na h1 40 na_40) (hE.2 0 _ rfl _) (hE.2 6 _ rfl _)
      · exact va_neR (fs_na h1 38 na_38) (hE.2 1 _ rfl _) (hE.2 6 _ rfl _)
      · exact va_neR (fs_na h1 39 na_39) (hE.2 2 _ rfl _) (hE.2 6 _ rfl _)
      · exact va_neR (fs_na h1 37 na_37) (hE.2 3 _ rfl _) (hE.2 6 _ rfl _)
      · exact (va_neR (fs_na h1 276 na_276) (hE.2 6 _ rfl _) (hE.2 4 _ rfl _)).symm
      · exact (va_neR (fs_na h1 286 na_286) (hE.2 6 _ rfl _) (hE.2 5 _ rfl _)).symm
    · have h9 : i = 0 ∨ i = 1 ∨ i = 2 ∨ i = 3 ∨ i = 4 ∨ i = 5 ∨ i = 6 := by omega
      rcases h9 with rfl | rfl | rfl | rfl | rfl | rfl | rfl
      · exact va_neR (fs_na h1 32 na_32) (hE.2 0 _ rfl _) (hE.2 7 _ rfl _)
      · exact va_neR (fs_na h1 30 na_30) (hE.2 1 _ rfl _) (hE.2 7 _ rfl _)
      · exact va_neR (fs_na h1 31 na_31) (hE.2 2 _ rfl _) (hE.2 7 _ rfl _)
      · exact va_neR (fs_na h1 29 na_29) (hE.2 3 _ rfl _) (hE.2 7 _ rfl _)
      · exact (va_neR (fs_na h1 275 na_275) (hE.2 7 _ rfl _) (hE.2 4 _ rfl _)).symm
      · exact (va_neR (fs_na h1 285 na_285) (hE.2 7 _ rfl _) (hE.2 5 _ rfl _)).symm
      · exact (va_neR (fs_na h1 41 na_41) (hE.2 7 _ rfl _) (hE.2 6 _ rfl _)).symm
  intro i j hi hj e
  rcases Nat.lt_trichotomy i j with h | h | h
  · exact absurd e (key i j h hj)
  · exact h
  · exact absurd e.symm (key j i h hi)
set_option maxRecDepth 100000 in
theorem fs_dig9_at : ∀ q : Nat, q < 100 → (fs_ands narrow_1)[167 + q]? = some (Cond.eq (.elem (Jvm.Term.static "java/lang/Integer" "DigitTens" "[B") (.int (Int32.ofNat q))) (.int (fs_dt 9 q))) := by decide +kernel
theorem fs_dig9 {l : Launch} {s00 : State} {E : fs_E} (hE : fs_SE l s00 E) : va_T .byte (E.2 9) 100 (fun k => .int (fs_dt 9 k)) (fs_A s00) s00 s00.heap := by
  obtain ⟨b, h0, h1⟩ := hE.1.nar
  obtain ⟨t, ht, hT⟩ := va_Tof (args := #[Value.ref b]) (s := s00) (tm := (Jvm.Term.static "java/lang/Integer" "DigitTens" "[B")) (ty := .byte) (f := fun k => .int (fs_dt 9 k)) (A := fs_A s00) (N := 100) (by decide) (fs_na h1 165 na_165) (va_eqt (fs_na h1 166 na_166)) (fun j hj => va_eqt (fs_na h1 _ (fs_dig9_at j hj))) fs_nA
  cases Option.some.inj (ht.symm.trans (hE.2 9 _ rfl _))
  exact hT
set_option maxRecDepth 100000 in
theorem fs_dig10_at : ∀ q : Nat, q < 100 → (fs_ands narrow_1)[64 + q]? = some (Cond.eq (.elem (Jvm.Term.static "java/lang/Integer" "DigitOnes" "[B") (.int (Int32.ofNat q))) (.int (fs_dt 10 q))) := by decide +kernel
theorem fs_dig10 {l : Launch} {s00 : State} {E : fs_E} (hE : fs_SE l s00 E) : va_T .byte (E.2 10) 100 (fun k => .int (fs_dt 10 k)) (fs_A s00) s00 s00.heap := by
  obtain ⟨b, h0, h1⟩ := hE.1.nar
  obtain ⟨t, ht, hT⟩ := va_Tof (args := #[Value.ref b]) (s := s00) (tm := (Jvm.Term.static "java/lang/Integer" "DigitOnes" "[B")) (ty := .byte) (f := fun k => .int (fs_dt 10 k)) (A := fs_A s00) (N := 100) (by decide) (fs_na h1 62 na_62) (va_eqt (fs_na h1 63 na_63)) (fun j hj => va_eqt (fs_na h1 _ (fs_dig10_at j hj))) fs_nA
  cases Option.some.inj (ht.symm.trans (hE.2 10 _ rfl _))
  exact hT
section FSK
variable {p : Program} {l : Launch} {e : Env} {R : Room} {s : State} {m : MethodId} {args : Array Value} {below : List Frame} {meth : Method} {c : Code} {H : Heap} {locs : List Loc} {cells slots : Nat} {Q : State → Prop}
variable {cc : ByteArray} {pc : Nat} {ls : Array Slot} {rest : List Value} {E : fs_E} {h : fs_Hp} {s00 : State} {Post : fs_Ps} {a : Nat}
theorem fs_gets {C n d own : String} {v : Value} {index : Nat} (hexec : p.tables.exec = Jvm.exec) (hb : c.code = cc) (h0 : va_Z C n d v (fs_A s00) s00 s00.heap) (hw : fs_W s00 s) (hS : va_S (fs_A s00) s00.heap H locs) (hown : s.vm.findClass own = some m.cls) (hlink : (Cond.fieldLink own index C n d).before args s = true) (hdg : decode cc pc = .ok (.getstatic index, 3))
    (kk : W p l e R s m args below meth c H locs cells slots Q (F0 m (pc + 3) ls (v :: rest))) : W p l e R s m args below meth c H locs cells slots Q (F0 m pc ls rest) := by
  obtain ⟨cf, kf, fi, f, a, cell, h1, h2, h3, h4, h5, h6, h7, h8⟩ := (va_Z.moved hw.1.alike h0).kept hS.2.1
  exact W.gets hexec hb hown hlink h1 h2 h3 h4 h5 (fun e => by rw [e] at h6; cases h6) h7 rfl hdg kk
theorem fs_getsN {C n d own host : String} {v : Value} {index : Nat} (hexec : p.tables.exec = Jvm.exec) (hb : c.code = cc) (h0 : va_Z C n d v (fs_A s00) s00 s00.heap) (hw : fs_W s00 s) (hS : va_S (fs_A s00) s00.heap H locs) (hown : s.vm.findClass own = some m.cls) (hlink : (Cond.fieldLinkNest own index C n d host).before args s = true) (hdg : decode cc pc = .ok (.getstatic index, 3))
    (kk : W p l e R s m args below meth c H locs cells slots Q (F0 m (pc + 3) ls (v :: rest))) : W p l e R s m args below meth c H locs cells slots Q (F0 m pc ls rest) := by
  have hZ := (va_Z.moved hw.1.alike h0)
  intro T hT X
  have hS2 : va_S (fs_A s00) s.heap H locs := by
    refine ⟨?_, fun q hq hA => ?_, hS.2.2⟩
    · rw [← hT]
      exact X.same.2.1
    · have hq0 : q < s00.heap.size := Nat.not_le.mp hA
      rw [hS.2.1 q hq0 hA, hw.2.2 q hq0]
  exact va_getsN hexec hb (hZ.kept fun a ha _ => hw.2.2 a ha) hS2 hown hlink (fun _ h9 => h9) hdg kk T hT X
theorem fs_zr {i : Nat} {C n d : String} (hE : fs_SE l s00 E) (ht : fs_nmT i = some (.static C n d)) (w1 : Cond.laysStatic C n d ∈ lw_tbl) (w2 : Cond.initialized C ∈ lw_tbl) : va_Z C n d (.ref (E.2 i)) (fs_A s00) s00 s00.heap := by
  obtain ⟨b, h0, -⟩ := hE.1.nar
  exact va_Zof (h0 _ w1) (h0 _ w2) (hE.2 i _ ht _) fs_nA
theorem fs_zi {i : Nat} {C n d : String} {z : Int32} (hE : fs_SE l s00 E) (hi : (fs_ands narrow_1)[i]? = some (.eq (.static C n d) (.int z))) (w1 : Cond.laysStatic C n d ∈ lw_tbl) (w2 : Cond.initialized C ∈ lw_tbl) : va_Z C n d (.int z) (fs_A s00) s00 s00.heap := by
  obtain ⟨b, h0, h1⟩ := hE.1.nar
  exact va_Zof (h0 _ w1) (h0 _ w2) (va_eqi (fs_na h1 i hi)) fs_nA
theorem fs_zq {i : Nat} {C n d : String} (hE : fs_SE l s00 E) (hi : (fs_ands narrow_1)[i]? = some (.isRef (.static C n d))) (w1 : Cond.laysStatic C n d ∈ lw_tbl) (w2 : Cond.initialized C ∈ lw_tbl) : ∃ o : Option Nat, va_Z C n d (va_rf o) (fs_A s00) s00 s00.heap := by
  obtain ⟨b, h0, h1⟩ := hE.1.nar
  rcases va_Zqof (h0 _ w1) (h0 _ w2) (fs_na h1 i hi) fs_nA with h9 | ⟨t, h9⟩
  · exact ⟨none, h9⟩
  · exact ⟨some t, h9⟩
theorem fs_xget {o n d own : String} {v : Value} {index : Nat} (hexec : p.tables.exec = Jvm.exec) (hb : c.code = cc) (h0 : va_OF o n d v a (fs_A s00) s00 s00.heap) (hw : fs_W s00 s) (hS : va_S (fs_A s00) s00.heap H locs) (hown : s.vm.findClass own = some m.cls) (hlink : (Cond.fieldLink own index o n d).before args s = true) (hdg : decode cc pc = .ok (.getfield index, 3))
    (kk : W p l e R s m args below meth c H locs cells slots Q (F0 m (pc + 3) ls (v :: rest))) : W p l e R s m args below meth c H locs cells slots Q (F0 m pc ls (.ref a :: rest)) := by
  obtain ⟨cf, k, fi, f, cell, h1, h2, h3, h4, h5, h6⟩ := (va_OF.moved hw.1.alike h0).kept hS.2.1
  exact W.getf hexec hb hown hlink h1 h2 h3 h4 (v := v) h5 rfl rfl hdg kk
theorem fs_xba {N : Nat} {f : Nat → Int32} (hexec : p.tables.exec = Jvm.exec) (hb : c.code = cc) (h0 : va_T .byte a N (fun k => .int (f k)) (fs_A s00) s00 s00.heap) (hw : fs_W s00 s) (hS : va_S (fs_A s00) s00.heap H locs) {i : Int32} (hin : vp_in i N) (hdg : decode cc pc = .ok (.baload, 1))
    (kk : W p l e R s m args below meth c H locs cells slots Q (F0 m (pc + 1) ls (.int (f i.toNatClampNeg) :: rest))) : W p l e R s m args below meth c H locs cells slots Q (F0 m pc ls (.int i :: .ref a :: rest)) := by
  obtain ⟨cell, h1, h2, h3, h4, h5, h6, h7⟩ := (va_T.moved hw.1.alike h0).kept hS.2.1
  have hlt : i.toNatClampNeg < N := Nat.not_le.mp fun q => hin (Or.inr q)
  exact W.bald (v := .int (f i.toNatClampNeg)) hexec hb h1 h2 h3 (fun q => by rcases q with q | q; exact hin (Or.inl q); omega) (h6 _ hlt) rfl rfl hdg kk
theorem fs_xqa {N : Nat} {C : String} {f : Nat → Nat} (hexec : p.tables.exec = Jvm.exec) (hb : c.code = cc) (h0 : va_T (.object C) a N (fun k => .ref (f k)) (fs_A s00) s00 s00.heap) (hw : fs_W s00 s) (hS : va_S (fs_A s00) s00.heap H locs) {i : Int32} (hin : vp_in i N) (hdg : decode cc pc = .ok (.aaload, 1))
    (kk : W p l e R s m args below meth c H locs cells slots Q (F0 m (pc + 1) ls (.ref (f i.toNatClampNeg) :: rest))) : W p l e R s m args below meth c H locs cells slots Q (F0 m pc ls (.int i :: .ref a :: rest)) := by
  obtain ⟨cell, h1, h2, h3, h4, h5, h6, h7⟩ := (va_T.moved hw.1.alike h0).kept hS.2.1
  have hlt : i.toNatClampNeg < N := Nat.not_le.mp fun q => hin (Or.inr q)
  exact W.aald (v := .ref (f i.toNatClampNeg)) hexec hb h1 h2 rfl h3 (fun q => by rcases q with q | q; exact hin (Or.inl q); omega) (h6 _ hlt) rfl rfl hdg kk
theorem fs_xln {N : Nat} {ty : FieldType} {f : Nat → Value} (hexec : p.tables.exec = Jvm.exec) (hb : c.code = cc) (h0 : va_T ty a N f (fs_A s00) s00 s00.heap) (hw : fs_W s00 s) (hS : va_S (fs_A s00) s00.heap H locs) (hdg : decode cc pc = .ok (.arraylength, 1))
    (kk : W p l e R s m args below meth c H locs cells slots Q (F0 m (pc + 1) ls (.int (Int32.ofNat N) :: rest))) : W p l e R s m args below meth c H locs cells slots Q (F0 m pc ls (.ref a :: rest)) := by
  obtain ⟨cell, h1, h2, h3, h4, h5, h6, h7⟩ := (va_T.moved hw.1.alike h0).kept hS.2.1
  exact W.alen (n := Int32.ofNat N) hexec hb h1 h2 h5 rfl rfl hdg kk
def fs_nj (E : fs_E) (b a : Nat) (K : Nat → Prop) : Prop := ∃ j : Nat, j < 8 ∧ a = E.2 (b + j) ∧ K j
/-- what the words of the tables and of the start say of an exception's making -/
def fs_thw (own : String) (ic : Nat) (C : String) (names : List String) : Bool := (Bundle.ownAtoms0 own ic C names).all fun w => decide (w ∈ fs_tb) || decide (w = .isRef (.static Bundle.tN "UNASSIGNED_STACK" Bundle.steD)) || decide (w = .isRef (.static Bundle.tN "SUPPRESSED_SENTINEL" Bundle.listD)) || decide (w = .laysStatic Bundle.tN "UNASSIGNED_STACK" Bundle.steD) || decide (w = .laysStatic Bundle.tN "SUPPRESSED_SENTINEL" Bundle.listD)
theorem fs_thr {C : String} {names : List String} {ia ic k nL : Nat} {y : MethodName} {ret : Option FieldType} (hE : fs_SE l s00 E) (B : fs_B p l e s m args meth c s00 E.1 y cc nL ret) (hat : fs_thw y.cls ic C names = true) (hcls : Bundle.fit C = true) (hnames : ∀ n ∈ names, Bundle.fit n = true) (hP : fs_P E.1.1 fs_cl (fs_A s00) h H) (hS : va_S (fs_A s00) s00.heap H locs)
    (w1 : Cond.classLink y.cls ia C ∈ fs_tb) (w2 : Cond.initialized C ∈ fs_tb) (hsz : ls.size = nL) (d0 : decode cc pc = .ok (.new ia, 3)) (d3 : decode cc (pc + 3) = .ok (.dup, 1)) (d4 : decode cc (pc + 4) = .ok (.invokespecial ic, 3)) (d7 : decode cc (pc + 7) = .ok (.athrow, 1))
    (hk : (rest.map fun v => v.category).sum = k) {nl : Nat} (hnl : names.length = nl) (r1 : nl + 4 ≤ R.frames) (r2 : k + 1 + (13 * (nl + 1) + 41) ≤ R.locals) (r3 : cells + 1 ≤ R.cells) (r4 : slots + 6 ≤ R.slots)
    (kk : ∀ (a : Nat) (H1 : Heap) (locs1 : List Loc), fs_P E.1.1 fs_cl (fs_A s00) h H1 → va_S (fs_A s00) s00.heap H1 locs1 → fs_X (fs_A s00) C a s H1 → fx_T p l e R s m args below meth c H1 locs1 (cells + 1) (slots + 6) Q (F0 m (pc + 7) ls rest) a) :
    W p l e R s m args below meth c H locs cells slots Q (F0 m pc ls rest) := by
  obtain ⟨hx, hb, -, hml, hown, hts, -, -, hK, hw, htr⟩ := B
  obtain ⟨b, h0, h1⟩ := hE.1.nar
  have hl1 := h0 _ (List.mem_of_getElem? tw_519)
  have hl2 := h0 _ (List.mem_of_getElem? tw_521)
  have hall : ∀ w ∈ Bundle.ownAtoms0 y.cls ic C names, w.before args s = true := by
    intro w hw9
    have h9 := List.all_eq_true.mp hat w hw9
    simp only [Bool.or_eq_true, decide_eq_true_eq] at h9
    rcases h9 with (((h9 | h9) | h9) | h9) | h9
    · exact hts _ h9
    · rw [h9]
      exact fs_ir hw hl1 (fs_na h1 42 na_42)
    · rw [h9]
      exact fs_ir hw hl2 (fs_na h1 43 na_43)
    · rw [h9]
      exact fs_ls hw hl1
    · rw [h9]
      exact fs_ls hw hl2
  subst hk
  subst hnl
  intro T hT X
  have hH : s.heap.size ≤ H.size := by
    rw [← hT]
    exact X.same.2.1
  exact fs_raise (names := names) (ia := ia) (ic := ic) hx hb htr hown hcls hnames hall hw hl1 hP hS hH (hts _ w1) (hts _ w2) (hsz.trans hml.symm) d0 d3 d4 d7 ⟨by omega, by omega, r3, r4⟩ (fun a H1 locs1 p1 p2 p3 _ => kk a H1 locs1 p1 p2 p3) T hT X
theorem fs_Ct.ofS {G : fs_G} {y : MethodName} {maxL : Nat} {ret : Option FieldType} {F mc ms Lo : Nat} {As : List Value} (hSt : fs_St l s00 G) (hy : plainFor y = true)
    (body : ∀ (p : Program) (e : Env) (R : Room) (s : State) (m : MethodId) (below : List Frame) (meth : Method) (c : Code), F ≤ R.frames → Lo ≤ R.locals → mc ≤ R.cells → ms ≤ R.slots → fs_B p l e s m As.toArray meth c s00 G y cc maxL ret → (∀ pc, ∀ x ∈ c.exceptionTable.toList, covers x pc = false) → fs_P G.1 fs_cl (fs_A s00) h s.heap →
      W p l e R s m As.toArray below meth c s.heap [] 0 0 (fx_MQ below (fs_Qc s00 G Post) As.toArray s mc ms (fs_A s00)) (entryFrame m As.toArray maxL)) : fs_Ct l s00 G y (.code y cc maxL ret) { frames := F, cells := mc, slots := ms, locals := Lo } As h Post := by
  unfold fs_Ct fx_Met
  refine MetFree.of_bodySF (code := cc) (maxLocals := maxL) (ret := ret) hy ?_ ?_
  · intro args s m h9 hn
    obtain ⟨meth, c, h1, h2, h3, h4, h5, h6, -, -⟩ := Cond.code_spec hn (atoms_spec (ws := [Cond.code y cc maxL ret]) h9 _ List.mem_cons_self)
    exact ⟨meth, c, h1, h2, h3, h4, h5, h6⟩
  · intro p e s m args below meth c s₁ B hml hv _
    obtain ⟨rfl, hw, hP⟩ := hv
    have hh0 : s₁.heap = s.heap := by rw [B.state]; rfl
    obtain ⟨t, a1, o, b1, b2, b3⟩ := body p e _ s m below meth c (Nat.le_refl _) (Nat.le_refl _) (Nat.le_refl _) (Nat.le_refl _) ⟨B.exec, B.bytes, B.returns, hml, findClass_of_methodNamed B.named, (hSt.T hw).all _, B.notSynchronized, (name_of_methodNamed B.named B.method).1, hSt.K hw, hw, hSt.tr⟩ (fx_none rfl B) hP s₁ hh0 (Stand.of_body B)
    exact ⟨t, o, a1, b1, b2, ⟨b3.1, b3.2⟩⟩
end FSK
