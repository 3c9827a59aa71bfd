/-! ===== the law's entry: what nobody writes ===== -/
def fmN : List String := ["SHEET", "CREASE", "FOLD", "OPEN", "MEND", "PUT", "TAKE", "SHORT_PASTE", "LONG_PASTE"]
abbrev fmT (i : Nat) : Term := .static "MapHall$Form" (fmN.getD i "") "LMapHall$Form;"
abbrev foT : Term := .static "MapHall" "FORMS" "[LMapHall$Form;"
abbrev swT : Term := .static "MapHall$1" "$SwitchMap$MapHall$Form" "[I"
abbrev dgT : Term := .static "java/lang/Integer" "DigitOnes" "[B"
def rs0 (i : Nat) : String × Nat × String × Nat := roS.getD i ("", 0, "", 0)
abbrev stT (i : Nat) : Term := .string (rs0 i).1 (rs0 i).2.1
abbrev bvT (t : Term) : Term := .field t "java/lang/String" "value" "[B"
def strP (t : Term) (T : List Int32) : List Cond := [.exactly t "java/lang/String", .eq (.field t "java/lang/String" "coder" "B") (.int 0), .arrayOf (bvT t) .byte, .eq (.length (bvT t)) (.int (Int32.ofNat T.length))] ++ (List.range T.length).map (fun j => Cond.eq (.elem (bvT t) (.int (Int32.ofNat j))) (.int (T.getD j 0)))
def swV : List Int32 := [1, 2, 3, 4, 5, 6, 7, 8, 0]
def ned1 : List Cond := [.isRef (.static "java/lang/Throwable" "UNASSIGNED_STACK" "[Ljava/lang/StackTraceElement;"), .isRef (.static "java/lang/Throwable" "SUPPRESSED_SENTINEL" "Ljava/util/List;"), .arrayOf foT (.object "MapHall$Form"), .eq (.length foT) (.int 9)] ++ (List.range 9).map (fun j => Cond.eq (.elem foT (.int (Int32.ofNat j))) (fmT j)) ++ [.eq (.static "java/lang/String" "COMPACT_STRINGS" "Z") (.int 1), .isRef (.static "jdk/internal/util/Preconditions" "SIOOBE_FORMATTER" "Ljava/util/function/BiFunction;"), .arrayOf swT .int, .eq (.length swT) (.int 9)] ++ (List.range 9).map (fun j => Cond.eq (.elem swT (.int (Int32.ofNat j))) (.int (swV.getD j 0))) ++ [.arrayOf dgT .byte, .eq (.length dgT) (.int 100)] ++ (List.range 100).map (fun j => Cond.eq (.elem dgT (.int (Int32.ofNat j))) (.int (Int32.ofNat (48 + j % 10))))
def ned2 : List Cond := (List.range 9).flatMap (fun i => [Cond.exactly (fmT i) "MapHall$Form", .eq (.field (fmT i) "java/lang/Enum" "ordinal" "I") (.int (Int32.ofNat i)), .eq (.field (fmT i) "MapHall$Form" "pattern" "Ljava/lang/String;") (stT (34 + i))])
def ned3 : List Cond := roN.map (fun q => Cond.not (.castable q.1 q.2))
def ned4 : List Cond := (List.range 43).flatMap (fun i => strP (stT i) (rtx.getD i []))
set_option maxRecDepth 100000 in
theorem ned1_in : subL (flatC (Jvm.Cond.and given_1 narrow_1)) ned1 = true := by decide +kernel
set_option maxRecDepth 100000 in
theorem ned2_in : subL (flatC (Jvm.Cond.and given_1 narrow_1)) ned2 = true := by decide +kernel
set_option maxRecDepth 100000 in
theorem ned3_in : subL (flatC (Jvm.Cond.and given_1 narrow_1)) ned3 = true := by decide +kernel
set_option maxRecDepth 100000 in
theorem ned4_in : subL (flatC (Jvm.Cond.and given_1 narrow_1)) ned4 = true := by decide +kernel
theorem ro_M : ∀ q ∈ roM, Cond.methodLinkNest q.1 q.2.1 q.2.2.1 q.2.2.2 ∈ lw_tbl := by decide +kernel
theorem ro_L : ∀ q ∈ roL, Cond.fieldLinkNest q.1 q.2.1 q.2.2.1 q.2.2.2.1 q.2.2.2.2.1 q.2.2.2.2.2 ∈ lw_tbl := by decide +kernel
theorem ro_C : ∀ q ∈ roC, Cond.castable q.1 q.2 ∈ lw_tbl := by decide +kernel
theorem ro_A : ∀ q ∈ roA, Cond.arrayOver (.object q) ∈ lw_tbl := by decide +kernel
theorem ro_D : ∀ q ∈ roD, Cond.declares q ∈ lw_tbl := by decide +kernel
theorem ro_S : ∀ i, i < 43 → Cond.stringRef (rs0 i).1 (rs0 i).2.1 (rs0 i).2.2.1 ∈ lw_tbl := by decide +kernel
theorem la_words : Cond.laysStatic "java/lang/Throwable" "UNASSIGNED_STACK" "[Ljava/lang/StackTraceElement;" ∈ lw_tbl ∧ Cond.laysStatic "java/lang/Throwable" "SUPPRESSED_SENTINEL" "Ljava/util/List;" ∈ lw_tbl ∧ Cond.laysStatic "MapHall" "FORMS" "[LMapHall$Form;" ∈ lw_tbl ∧ Cond.laysStatic "MapHall$1" "$SwitchMap$MapHall$Form" "[I" ∈ lw_tbl ∧ Cond.laysStatic "java/lang/String" "COMPACT_STRINGS" "Z" ∈ lw_tbl ∧ Cond.laysStatic "jdk/internal/util/Preconditions" "SIOOBE_FORMATTER" "Ljava/util/function/BiFunction;" ∈ lw_tbl ∧ Cond.laysStatic "java/lang/Integer" "DigitOnes" "[B" ∈ lw_tbl := by decide +kernel
theorem in_words : Cond.initialized "java/lang/Throwable" ∈ lw_tbl ∧ Cond.initialized "MapHall" ∈ lw_tbl ∧ Cond.initialized "MapHall$1" ∈ lw_tbl ∧ Cond.initialized "java/lang/String" ∈ lw_tbl ∧ Cond.initialized "jdk/internal/util/Preconditions" ∈ lw_tbl ∧ Cond.initialized "java/lang/Integer" ∈ lw_tbl := by decide +kernel
set_option maxRecDepth 100000 in
theorem roT_e : roT = [(.object "MapHall$Form", ROB + 1, 9, fun j => .ref (ROB + 3 + j)), (.int, ROB + 2, 9, fun j => .int (swV.getD j 0))] ++ (List.range 43).map (fun i => (FieldType.byte, ROB + 100 + i, (rtx.getD i []).length, fun j => Value.int ((rtx.getD i []).getD j 0))) ++ [(.byte, ROB + 12, 100, fun j => .int (Int32.ofNat (48 + j % 10)))] := rfl
theorem roO_e : roO = (List.range 9).map (fun i => ("MapHall$Form", ROB + 3 + i)) ++ (List.range 43).map (fun i => ("java/lang/String", ROB + 20 + i)) := by decide +kernel
set_option maxRecDepth 100000 in
theorem roF_e : roF = (List.range 9).flatMap (fun i => [("java/lang/Enum", "ordinal", "I", Value.int (Int32.ofNat i), ROB + 3 + i), ("MapHall$Form", "pattern", "Ljava/lang/String;", Value.ref (ROB + 54 + i), ROB + 3 + i)]) ++ (List.range 43).flatMap (fun i => [("java/lang/String", "value", "[B", Value.ref (ROB + 100 + i), ROB + 20 + i), ("java/lang/String", "coder", "B", Value.int 0, ROB + 20 + i)]) := rfl
theorem roS_e : roS = (List.range 43).map (fun i => ((rs0 i).1, (rs0 i).2.1, (rs0 i).2.2.1, ROB + 20 + i)) := by decide +kernel
theorem tx_len : ∀ i, i < 43 → (rtx.getD i []).length < 2 ^ 31 := by decide +kernel
