/-! The classes of the world. -/
def R_SH : String := "FormulaSheet"
def F_SH : u_T := fun k => match k with
  | 0 => ("FormulaSheet", "line", "LFormulaSheet$Line;", true)
  | 1 => ("FormulaSheet", "cells", "LFormulaSheet$Cells;", true)
  | 2 => ("FormulaSheet", "written", "Ljava/lang/StringBuilder;", true)
  | _ => ("FormulaSheet", "refusedAt", "I", false)
def t_SH : Nat → FieldType := fun k => match k with
  | 0 => .object "FormulaSheet$Line"
  | 1 => .object "FormulaSheet$Cells"
  | 2 => .object "java/lang/StringBuilder"
  | _ => .int
def R_LN : String := "FormulaSheet$Line"
def F_LN : u_T := fun k => match k with
  | 0 => ("FormulaSheet$Line", "characters", "[C", true)
  | 1 => ("FormulaSheet$Line", "length", "I", false)
  | 2 => ("FormulaSheet$Line", "at", "I", false)
  | _ => ("FormulaSheet$Line", "open", "I", false)
def t_LN : Nat → FieldType := fun k => match k with
  | 0 => .array .char
  | 1 => .int
  | 2 => .int
  | _ => .int
def R_CE : String := "FormulaSheet$Cells"
def F_CE : u_T := fun k => match k with
  | 0 => ("FormulaSheet$Cells", "filled", "[Z", true)
  | 1 => ("FormulaSheet$Cells", "formulas", "[LFormulaSheet$Part;", true)
  | 2 => ("FormulaSheet$Cells", "values", "[D", true)
  | 3 => ("FormulaSheet$Cells", "reached", "[LFormulaSheet$CellSet;", true)
  | 4 => ("FormulaSheet$Cells", "gathered", "[D", true)
  | 5 => ("FormulaSheet$Cells", "order", "[I", true)
  | _ => ("FormulaSheet$Cells", "settled", "Z", false)
def t_CE : Nat → FieldType := fun k => match k with
  | 0 => .array .boolean
  | 1 => .array (.object "FormulaSheet$Part")
  | 2 => .array .double
  | 3 => .array (.object "FormulaSheet$CellSet")
  | 4 => .array .double
  | 5 => .array .int
  | _ => .boolean
def R_CS : String := "FormulaSheet$CellSet"
def F_CS : u_T := fun k => match k with
  | 0 => ("FormulaSheet$CellSet", "low", "J", false)
  | _ => ("FormulaSheet$CellSet", "high", "J", false)
def t_CS : Nat → FieldType := fun k => match k with
  | 0 => .long
  | _ => .long
def R_NU : String := "FormulaSheet$Numeral"
def F_NU : u_T := fun k => match k with
  | 0 => ("FormulaSheet$Numeral", "digits", "J", true)
  | 1 => ("FormulaSheet$Numeral", "behind", "I", true)
  | _ => ("FormulaSheet$Part", "inner", "[LFormulaSheet$Part;", true)
def t_NU : Nat → FieldType := fun k => match k with
  | 0 => .long
  | 1 => .int
  | _ => .array (.object "FormulaSheet$Part")
def R_RE : String := "FormulaSheet$Reference"
def F_RE : u_T := fun k => match k with
  | 0 => ("FormulaSheet$Reference", "columnFixed", "Z", true)
  | 1 => ("FormulaSheet$Reference", "rowFixed", "Z", true)
  | 2 => ("FormulaSheet$Reference", "column", "I", true)
  | 3 => ("FormulaSheet$Reference", "row", "I", false)
  | 4 => ("FormulaSheet$Reference", "lost", "Z", false)
  | _ => ("FormulaSheet$Part", "inner", "[LFormulaSheet$Part;", true)
def t_RE : Nat → FieldType := fun k => match k with
  | 0 => .boolean
  | 1 => .boolean
  | 2 => .int
  | 3 => .int
  | 4 => .boolean
  | _ => .array (.object "FormulaSheet$Part")
def R_SI : String := "FormulaSheet$Single"
def F_SI : u_T := fun k => match k with
  | 0 => ("FormulaSheet$Single", "sign", "C", true)
  | _ => ("FormulaSheet$Part", "inner", "[LFormulaSheet$Part;", true)
def t_SI : Nat → FieldType := fun k => match k with
  | 0 => .char
  | _ => .array (.object "FormulaSheet$Part")
def R_PA : String := "FormulaSheet$Pair"
def F_PA : u_T := fun k => match k with
  | 0 => ("FormulaSheet$Pair", "sign", "C", true)
  | _ => ("FormulaSheet$Part", "inner", "[LFormulaSheet$Part;", true)
def t_PA : Nat → FieldType := fun k => match k with
  | 0 => .char
  | _ => .array (.object "FormulaSheet$Part")
def R_CA : String := "FormulaSheet$Call"
def F_CA : u_T := fun k => match k with
  | 0 => ("FormulaSheet$Call", "name", "LFormulaSheet$Name;", true)
  | _ => ("FormulaSheet$Part", "inner", "[LFormulaSheet$Part;", true)
def t_CA : Nat → FieldType := fun k => match k with
  | 0 => .object "FormulaSheet$Name"
  | _ => .array (.object "FormulaSheet$Part")
def R_OV : String := "FormulaSheet$OverRange"
def F_OV : u_T := fun k => match k with
  | 0 => ("FormulaSheet$OverRange", "name", "LFormulaSheet$Name;", true)
  | 1 => ("FormulaSheet$OverRange", "first", "LFormulaSheet$Reference;", true)
  | 2 => ("FormulaSheet$OverRange", "second", "LFormulaSheet$Reference;", true)
  | _ => ("FormulaSheet$Part", "inner", "[LFormulaSheet$Part;", true)
def t_OV : Nat → FieldType := fun k => match k with
  | 0 => .object "FormulaSheet$Name"
  | 1 => .object "FormulaSheet$Reference"
  | 2 => .object "FormulaSheet$Reference"
  | _ => .array (.object "FormulaSheet$Part")
def R_MO : String := "FormulaSheetModel"
def F_MO : u_T := fun k => match k with
  | 0 => ("FormulaSheetModel", "state", "[I", true)
  | 1 => ("FormulaSheetModel", "size", "[I", true)
  | 2 => ("FormulaSheetModel", "number", "[D", true)
  | 3 => ("FormulaSheetModel", "item", "[I", true)
  | 4 => ("FormulaSheetModel", "one", "[I", true)
  | 5 => ("FormulaSheetModel", "two", "[I", true)
  | 6 => ("FormulaSheetModel", "digits", "[J", true)
  | 7 => ("FormulaSheetModel", "names", "[I", true)
  | 8 => ("FormulaSheetModel", "line", "[I", true)
  | 9 => ("FormulaSheetModel", "length", "I", false)
  | 10 => ("FormulaSheetModel", "errorAt", "I", false)
  | 11 => ("FormulaSheetModel", "thrown", "I", false)
  | 12 => ("FormulaSheetModel", "stale", "Z", false)
  | 13 => ("FormulaSheetModel", "low", "[J", true)
  | 14 => ("FormulaSheetModel", "high", "[J", true)
  | 15 => ("FormulaSheetModel", "farLow", "[J", true)
  | 16 => ("FormulaSheetModel", "farHigh", "[J", true)
  | 17 => ("FormulaSheetModel", "worth", "[D", true)
  | 18 => ("FormulaSheetModel", "bad", "[Z", true)
  | 19 => ("FormulaSheetModel", "known", "[Z", true)
  | 20 => ("FormulaSheetModel", "stack", "[D", true)
  | 21 => ("FormulaSheetModel", "broken", "[Z", true)
  | 22 => ("FormulaSheetModel", "at", "I", false)
  | 23 => ("FormulaSheetModel", "open", "I", false)
  | 24 => ("FormulaSheetModel", "reading", "I", false)
  | 25 => ("FormulaSheetModel", "around", "[I", true)
  | 26 => ("FormulaSheetModel", "argument", "[I", true)
  | 27 => ("FormulaSheetModel", "single", "[Z", true)
  | 28 => ("FormulaSheetModel", "signs", "[I", true)
  | 29 => ("FormulaSheetModel", "signCount", "I", false)
  | 30 => ("FormulaSheetModel", "made", "I", false)
  | 31 => ("FormulaSheetModel", "text", "[I", true)
  | 32 => ("FormulaSheetModel", "starts", "[I", true)
  | 33 => ("FormulaSheetModel", "levels", "[I", true)
  | 34 => ("FormulaSheetModel", "textLength", "I", false)
  | _ => ("FormulaSheetModel", "pieces", "I", false)
def t_MO : Nat → FieldType := fun k => match k with
  | 0 => .array .int
  | 1 => .array .int
  | 2 => .array .double
  | 3 => .array .int
  | 4 => .array .int
  | 5 => .array .int
  | 6 => .array .long
  | 7 => .array .int
  | 8 => .array .int
  | 9 => .int
  | 10 => .int
  | 11 => .int
  | 12 => .boolean
  | 13 => .array .long
  | 14 => .array .long
  | 15 => .array .long
  | 16 => .array .long
  | 17 => .array .double
  | 18 => .array .boolean
  | 19 => .array .boolean
  | 20 => .array .double
  | 21 => .array .boolean
  | 22 => .int
  | 23 => .int
  | 24 => .int
  | 25 => .array .int
  | 26 => .array .int
  | 27 => .array .boolean
  | 28 => .array .int
  | 29 => .int
  | 30 => .int
  | 31 => .array .int
  | 32 => .array .int
  | 33 => .array .int
  | 34 => .int
  | _ => .int
def R_SB : String := "java/lang/StringBuilder"
def F_SB : u_T := fun k => match k with
  | 0 => ("java/lang/AbstractStringBuilder", "value", "[B", false)
  | 1 => ("java/lang/AbstractStringBuilder", "coder", "B", false)
  | 2 => ("java/lang/AbstractStringBuilder", "maybeLatin1", "Z", false)
  | _ => ("java/lang/AbstractStringBuilder", "count", "I", false)
def t_SB : Nat → FieldType := fun k => match k with
  | 0 => .array .byte
  | 1 => .byte
  | 2 => .boolean
  | _ => .int
abbrev fs_cl : List vw_C := [(R_SH, F_SH, 4), (R_LN, F_LN, 4), (R_CE, F_CE, 7), (R_CS, F_CS, 2), (R_NU, F_NU, 3), (R_RE, F_RE, 6), (R_SI, F_SI, 2), (R_PA, F_PA, 2), (R_CA, F_CA, 2), (R_OV, F_OV, 4), (R_MO, F_MO, 36), (R_SB, F_SB, 4)]
abbrev fs_tb : List Cond := lw_tbl.filter fs_okw
set_option maxRecDepth 20000 in
theorem c_SH : fs_C fs_tb fs_cl 0 R_SH F_SH 4 t_SH := ⟨rfl, by decide +kernel, by decide +kernel, by decide +kernel⟩
set_option maxRecDepth 20000 in
theorem c_LN : fs_C fs_tb fs_cl 1 R_LN F_LN 4 t_LN := ⟨rfl, by decide +kernel, by decide +kernel, by decide +kernel⟩
set_option maxRecDepth 20000 in
theorem c_CE : fs_C fs_tb fs_cl 2 R_CE F_CE 7 t_CE := ⟨rfl, by decide +kernel, by decide +kernel, by decide +kernel⟩
set_option maxRecDepth 20000 in
theorem c_CS : fs_C fs_tb fs_cl 3 R_CS F_CS 2 t_CS := ⟨rfl, by decide +kernel, by decide +kernel, by decide +kernel⟩
set_option maxRecDepth 20000 in
theorem c_NU : fs_C fs_tb fs_cl 4 R_NU F_NU 3 t_NU := ⟨rfl, by decide +kernel, by decide +kernel, by decide +kernel⟩
set_option maxRecDepth 20000 in
theorem c_RE : fs_C fs_tb fs_cl 5 R_RE F_RE 6 t_RE := ⟨rfl, by decide +kernel, by decide +kernel, by decide +kernel⟩
set_option maxRecDepth 20000 in
theorem c_SI : fs_C fs_tb fs_cl 6 R_SI F_SI 2 t_SI := ⟨rfl, by decide +kernel, by decide +kernel, by decide +kernel⟩
set_option maxRecDepth 20000 in
theorem c_PA : fs_C fs_tb fs_cl 7 R_PA F_PA 2 t_PA := ⟨rfl, by decide +kernel, by decide +kernel, by decide +kernel⟩
set_option maxRecDepth 20000 in
theorem c_CA : fs_C fs_tb fs_cl 8 R_CA F_CA 2 t_CA := ⟨rfl, by decide +kernel, by decide +kernel, by decide +kernel⟩
set_option maxRecDepth 20000 in
theorem c_OV : fs_C fs_tb fs_cl 9 R_OV F_OV 4 t_OV := ⟨rfl, by decide +kernel, by decide +kernel, by decide +kernel⟩
set_option maxRecDepth 20000 in
theorem c_MO : fs_C fs_tb fs_cl 10 R_MO F_MO 36 t_MO := ⟨rfl, by decide +kernel, by decide +kernel, by decide +kernel⟩
set_option maxRecDepth 20000 in
theorem c_SB : fs_C fs_tb fs_cl 11 R_SB F_SB 4 t_SB := ⟨rfl, by decide +kernel, by decide +kernel, by decide +kernel⟩
abbrev fs_G : Type := va_G × (Nat → ClassId)
def fs_ty : Nat → FieldType := fun k => match k with
  | 0 => .int
  | 1 => .long
  | 2 => .double
  | 3 => .boolean
  | 4 => .char
  | 5 => .byte
  | 6 => .object "FormulaSheet$Part"
  | _ => .object "FormulaSheet$CellSet"
abbrev fs_tys (G : fs_G) : List (ClassId × FieldType) := [(G.2 0, fs_ty 0), (G.2 1, fs_ty 1), (G.2 2, fs_ty 2), (G.2 3, fs_ty 3), (G.2 4, fs_ty 4), (G.2 5, fs_ty 5), (G.2 6, fs_ty 6), (G.2 7, fs_ty 7)]
