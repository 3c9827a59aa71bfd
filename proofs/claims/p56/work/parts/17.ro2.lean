/-! ===== what nobody writes, read; calls of methods above ===== -/
def rtx : List (List Int32) := [tx0, tx1, tx2, tx3, tx4, tx5, tx6, tx7, tx8, tx9, tx10, tx11, tx12, tx13, tx14, tx15, tx16, tx17, tx18, tx19, tx20, tx21, tx22, tx23, tx24, tx25, tx26, tx27, tx28, tx29, tx30, tx31, tx32, tx33, tx34, tx35, tx36, tx37, tx38, tx39, tx40, tx41, tx42]
theorem roT_b (j : Nat) (hj : j < 43) : (FieldType.byte, ROB + 100 + j, (rtx.getD j []).length, fun i : Nat => Value.int ((rtx.getD j []).getD i 0)) ∈ roT := by
  match j, hj with
  | 0, _ => exact List.mem_of_getElem? (i := 2) rfl
  | 1, _ => exact List.mem_of_getElem? (i := 3) rfl
  | 2, _ => exact List.mem_of_getElem? (i := 4) rfl
  | 3, _ => exact List.mem_of_getElem? (i := 5) rfl
  | 4, _ => exact List.mem_of_getElem? (i := 6) rfl
  | 5, _ => exact List.mem_of_getElem? (i := 7) rfl
  | 6, _ => exact List.mem_of_getElem? (i := 8) rfl
  | 7, _ => exact List.mem_of_getElem? (i := 9) rfl
  | 8, _ => exact List.mem_of_getElem? (i := 10) rfl
  | 9, _ => exact List.mem_of_getElem? (i := 11) rfl
  | 10, _ => exact List.mem_of_getElem? (i := 12) rfl
  | 11, _ => exact List.mem_of_getElem? (i := 13) rfl
  | 12, _ => exact List.mem_of_getElem? (i := 14) rfl
  | 13, _ => exact List.mem_of_getElem? (i := 15) rfl
  | 14, _ => exact List.mem_of_getElem? (i := 16) rfl
  | 15, _ => exact List.mem_of_getElem? (i := 17) rfl
  | 16, _ => exact List.mem_of_getElem? (i := 18) rfl
  | 17, _ => exact List.mem_of_getElem? (i := 19) rfl
  | 18, _ => exact List.mem_of_getElem? (i := 20) rfl
  | 19, _ => exact List.mem_of_getElem? (i := 21) rfl
  | 20, _ => exact List.mem_of_getElem? (i := 22) rfl
  | 21, _ => exact List.mem_of_getElem? (i := 23) rfl
  | 22, _ => exact List.mem_of_getElem? (i := 24) rfl
  | 23, _ => exact List.mem_of_getElem? (i := 25) rfl
  | 24, _ => exact List.mem_of_getElem? (i := 26) rfl
  | 25, _ => exact List.mem_of_getElem? (i := 27) rfl
  | 26, _ => exact List.mem_of_getElem? (i := 28) rfl
  | 27, _ => exact List.mem_of_getElem? (i := 29) rfl
  | 28, _ => exact List.mem_of_getElem? (i := 30) rfl
  | 29, _ => exact List.mem_of_getElem? (i := 31) rfl
  | 30, _ => exact List.mem_of_getElem? (i := 32) rfl
  | 31, _ => exact List.mem_of_getElem? (i := 33) rfl
  | 32, _ => exact List.mem_of_getElem? (i := 34) rfl
  | 33, _ => exact List.mem_of_getElem? (i := 35) rfl
  | 34, _ => exact List.mem_of_getElem? (i := 36) rfl
  | 35, _ => exact List.mem_of_getElem? (i := 37) rfl
  | 36, _ => exact List.mem_of_getElem? (i := 38) rfl
  | 37, _ => exact List.mem_of_getElem? (i := 39) rfl
  | 38, _ => exact List.mem_of_getElem? (i := 40) rfl
  | 39, _ => exact List.mem_of_getElem? (i := 41) rfl
  | 40, _ => exact List.mem_of_getElem? (i := 42) rfl
  | 41, _ => exact List.mem_of_getElem? (i := 43) rfl
  | 42, _ => exact List.mem_of_getElem? (i := 44) rfl
  | x + 43, h => exact absurd h (by omega)
theorem roF_v (j : Nat) (hj : j < 43) : ("java/lang/String", "value", "[B", Value.ref (ROB + 100 + j), ROB + 20 + j) ∈ roF := by
  match j, hj with
  | 0, _ => exact List.mem_of_getElem? (i := 18) rfl
  | 1, _ => exact List.mem_of_getElem? (i := 20) rfl
  | 2, _ => exact List.mem_of_getElem? (i := 22) rfl
  | 3, _ => exact List.mem_of_getElem? (i := 24) rfl
  | 4, _ => exact List.mem_of_getElem? (i := 26) rfl
  | 5, _ => exact List.mem_of_getElem? (i := 28) rfl
  | 6, _ => exact List.mem_of_getElem? (i := 30) rfl
  | 7, _ => exact List.mem_of_getElem? (i := 32) rfl
  | 8, _ => exact List.mem_of_getElem? (i := 34) rfl
  | 9, _ => exact List.mem_of_getElem? (i := 36) rfl
  | 10, _ => exact List.mem_of_getElem? (i := 38) rfl
  | 11, _ => exact List.mem_of_getElem? (i := 40) rfl
  | 12, _ => exact List.mem_of_getElem? (i := 42) rfl
  | 13, _ => exact List.mem_of_getElem? (i := 44) rfl
  | 14, _ => exact List.mem_of_getElem? (i := 46) rfl
  | 15, _ => exact List.mem_of_getElem? (i := 48) rfl
  | 16, _ => exact List.mem_of_getElem? (i := 50) rfl
  | 17, _ => exact List.mem_of_getElem? (i := 52) rfl
  | 18, _ => exact List.mem_of_getElem? (i := 54) rfl
  | 19, _ => exact List.mem_of_getElem? (i := 56) rfl
  | 20, _ => exact List.mem_of_getElem? (i := 58) rfl
  | 21, _ => exact List.mem_of_getElem? (i := 60) rfl
  | 22, _ => exact List.mem_of_getElem? (i := 62) rfl
  | 23, _ => exact List.mem_of_getElem? (i := 64) rfl
  | 24, _ => exact List.mem_of_getElem? (i := 66) rfl
  | 25, _ => exact List.mem_of_getElem? (i := 68) rfl
  | 26, _ => exact List.mem_of_getElem? (i := 70) rfl
  | 27, _ => exact List.mem_of_getElem? (i := 72) rfl
  | 28, _ => exact List.mem_of_getElem? (i := 74) rfl
  | 29, _ => exact List.mem_of_getElem? (i := 76) rfl
  | 30, _ => exact List.mem_of_getElem? (i := 78) rfl
  | 31, _ => exact List.mem_of_getElem? (i := 80) rfl
  | 32, _ => exact List.mem_of_getElem? (i := 82) rfl
  | 33, _ => exact List.mem_of_getElem? (i := 84) rfl
  | 34, _ => exact List.mem_of_getElem? (i := 86) rfl
  | 35, _ => exact List.mem_of_getElem? (i := 88) rfl
  | 36, _ => exact List.mem_of_getElem? (i := 90) rfl
  | 37, _ => exact List.mem_of_getElem? (i := 92) rfl
  | 38, _ => exact List.mem_of_getElem? (i := 94) rfl
  | 39, _ => exact List.mem_of_getElem? (i := 96) rfl
  | 40, _ => exact List.mem_of_getElem? (i := 98) rfl
  | 41, _ => exact List.mem_of_getElem? (i := 100) rfl
  | 42, _ => exact List.mem_of_getElem? (i := 102) rfl
  | x + 43, h => exact absurd h (by omega)
theorem roF_c (j : Nat) (hj : j < 43) : ("java/lang/String", "coder", "B", Value.int 0, ROB + 20 + j) ∈ roF := by
  match j, hj with
  | 0, _ => exact List.mem_of_getElem? (i := 19) rfl
  | 1, _ => exact List.mem_of_getElem? (i := 21) rfl
  | 2, _ => exact List.mem_of_getElem? (i := 23) rfl
  | 3, _ => exact List.mem_of_getElem? (i := 25) rfl
  | 4, _ => exact List.mem_of_getElem? (i := 27) rfl
  | 5, _ => exact List.mem_of_getElem? (i := 29) rfl
  | 6, _ => exact List.mem_of_getElem? (i := 31) rfl
  | 7, _ => exact List.mem_of_getElem? (i := 33) rfl
  | 8, _ => exact List.mem_of_getElem? (i := 35) rfl
  | 9, _ => exact List.mem_of_getElem? (i := 37) rfl
  | 10, _ => exact List.mem_of_getElem? (i := 39) rfl
  | 11, _ => exact List.mem_of_getElem? (i := 41) rfl
  | 12, _ => exact List.mem_of_getElem? (i := 43) rfl
  | 13, _ => exact List.mem_of_getElem? (i := 45) rfl
  | 14, _ => exact List.mem_of_getElem? (i := 47) rfl
  | 15, _ => exact List.mem_of_getElem? (i := 49) rfl
  | 16, _ => exact List.mem_of_getElem? (i := 51) rfl
  | 17, _ => exact List.mem_of_getElem? (i := 53) rfl
  | 18, _ => exact List.mem_of_getElem? (i := 55) rfl
  | 19, _ => exact List.mem_of_getElem? (i := 57) rfl
  | 20, _ => exact List.mem_of_getElem? (i := 59) rfl
  | 21, _ => exact List.mem_of_getElem? (i := 61) rfl
  | 22, _ => exact List.mem_of_getElem? (i := 63) rfl
  | 23, _ => exact List.mem_of_getElem? (i := 65) rfl
  | 24, _ => exact List.mem_of_getElem? (i := 67) rfl
  | 25, _ => exact List.mem_of_getElem? (i := 69) rfl
  | 26, _ => exact List.mem_of_getElem? (i := 71) rfl
  | 27, _ => exact List.mem_of_getElem? (i := 73) rfl
  | 28, _ => exact List.mem_of_getElem? (i := 75) rfl
  | 29, _ => exact List.mem_of_getElem? (i := 77) rfl
  | 30, _ => exact List.mem_of_getElem? (i := 79) rfl
  | 31, _ => exact List.mem_of_getElem? (i := 81) rfl
  | 32, _ => exact List.mem_of_getElem? (i := 83) rfl
  | 33, _ => exact List.mem_of_getElem? (i := 85) rfl
  | 34, _ => exact List.mem_of_getElem? (i := 87) rfl
  | 35, _ => exact List.mem_of_getElem? (i := 89) rfl
  | 36, _ => exact List.mem_of_getElem? (i := 91) rfl
  | 37, _ => exact List.mem_of_getElem? (i := 93) rfl
  | 38, _ => exact List.mem_of_getElem? (i := 95) rfl
  | 39, _ => exact List.mem_of_getElem? (i := 97) rfl
  | 40, _ => exact List.mem_of_getElem? (i := 99) rfl
  | 41, _ => exact List.mem_of_getElem? (i := 101) rfl
  | 42, _ => exact List.mem_of_getElem? (i := 103) rfl
  | x + 43, h => exact absurd h (by omega)
theorem roO_s (j : Nat) (hj : j < 43) : ("java/lang/String", ROB + 20 + j) ∈ roO := by
  match j, hj with
  | 0, _ => exact List.mem_of_getElem? (i := 9) rfl
  | 1, _ => exact List.mem_of_getElem? (i := 10) rfl
  | 2, _ => exact List.mem_of_getElem? (i := 11) rfl
  | 3, _ => exact List.mem_of_getElem? (i := 12) rfl
  | 4, _ => exact List.mem_of_getElem? (i := 13) rfl
  | 5, _ => exact List.mem_of_getElem? (i := 14) rfl
  | 6, _ => exact List.mem_of_getElem? (i := 15) rfl
  | 7, _ => exact List.mem_of_getElem? (i := 16) rfl
  | 8, _ => exact List.mem_of_getElem? (i := 17) rfl
  | 9, _ => exact List.mem_of_getElem? (i := 18) rfl
  | 10, _ => exact List.mem_of_getElem? (i := 19) rfl
  | 11, _ => exact List.mem_of_getElem? (i := 20) rfl
  | 12, _ => exact List.mem_of_getElem? (i := 21) rfl
  | 13, _ => exact List.mem_of_getElem? (i := 22) rfl
  | 14, _ => exact List.mem_of_getElem? (i := 23) rfl
  | 15, _ => exact List.mem_of_getElem? (i := 24) rfl
  | 16, _ => exact List.mem_of_getElem? (i := 25) rfl
  | 17, _ => exact List.mem_of_getElem? (i := 26) rfl
  | 18, _ => exact List.mem_of_getElem? (i := 27) rfl
  | 19, _ => exact List.mem_of_getElem? (i := 28) rfl
  | 20, _ => exact List.mem_of_getElem? (i := 29) rfl
  | 21, _ => exact List.mem_of_getElem? (i := 30) rfl
  | 22, _ => exact List.mem_of_getElem? (i := 31) rfl
  | 23, _ => exact List.mem_of_getElem? (i := 32) rfl
  | 24, _ => exact List.mem_of_getElem? (i := 33) rfl
  | 25, _ => exact List.mem_of_getElem? (i := 34) rfl
  | 26, _ => exact List.mem_of_getElem? (i := 35) rfl
  | 27, _ => exact List.mem_of_getElem? (i := 36) rfl
  | 28, _ => exact List.mem_of_getElem? (i := 37) rfl
  | 29, _ => exact List.mem_of_getElem? (i := 38) rfl
  | 30, _ => exact List.mem_of_getElem? (i := 39) rfl
  | 31, _ => exact List.mem_of_getElem? (i := 40) rfl
  | 32, _ => exact List.mem_of_getElem? (i := 41) rfl
  | 33, _ => exact List.mem_of_getElem? (i := 42) rfl
  | 34, _ => exact List.mem_of_getElem? (i := 43) rfl
  | 35, _ => exact List.mem_of_getElem? (i := 44) rfl
  | 36, _ => exact List.mem_of_getElem? (i := 45) rfl
  | 37, _ => exact List.mem_of_getElem? (i := 46) rfl
  | 38, _ => exact List.mem_of_getElem? (i := 47) rfl
  | 39, _ => exact List.mem_of_getElem? (i := 48) rfl
  | 40, _ => exact List.mem_of_getElem? (i := 49) rfl
  | 41, _ => exact List.mem_of_getElem? (i := 50) rfl
  | 42, _ => exact List.mem_of_getElem? (i := 51) rfl
  | x + 43, h => exact absurd h (by omega)
theorem roF_p (j : Nat) (hj : j < 9) : ("MapHall$Form", "pattern", "Ljava/lang/String;", Value.ref (ROB + 54 + j), ROB + 3 + j) ∈ roF := by
  match j, hj with
  | 0, _ => exact List.mem_of_getElem? (i := 1) rfl
  | 1, _ => exact List.mem_of_getElem? (i := 3) rfl
  | 2, _ => exact List.mem_of_getElem? (i := 5) rfl
  | 3, _ => exact List.mem_of_getElem? (i := 7) rfl
  | 4, _ => exact List.mem_of_getElem? (i := 9) rfl
  | 5, _ => exact List.mem_of_getElem? (i := 11) rfl
  | 6, _ => exact List.mem_of_getElem? (i := 13) rfl
  | 7, _ => exact List.mem_of_getElem? (i := 15) rfl
  | 8, _ => exact List.mem_of_getElem? (i := 17) rfl
  | x + 9, h => exact absurd h (by omega)
theorem roF_o (j : Nat) (hj : j < 9) : ("java/lang/Enum", "ordinal", "I", Value.int (Int32.ofNat j), ROB + 3 + j) ∈ roF := by
  match j, hj with
  | 0, _ => exact List.mem_of_getElem? (i := 0) rfl
  | 1, _ => exact List.mem_of_getElem? (i := 2) rfl
  | 2, _ => exact List.mem_of_getElem? (i := 4) rfl
  | 3, _ => exact List.mem_of_getElem? (i := 6) rfl
  | 4, _ => exact List.mem_of_getElem? (i := 8) rfl
  | 5, _ => exact List.mem_of_getElem? (i := 10) rfl
  | 6, _ => exact List.mem_of_getElem? (i := 12) rfl
  | 7, _ => exact List.mem_of_getElem? (i := 14) rfl
  | 8, _ => exact List.mem_of_getElem? (i := 16) rfl
  | x + 9, h => exact absurd h (by omega)
theorem roO_f (j : Nat) (hj : j < 9) : ("MapHall$Form", ROB + 3 + j) ∈ roO := by
  match j, hj with
  | 0, _ => exact List.mem_of_getElem? (i := 0) rfl
  | 1, _ => exact List.mem_of_getElem? (i := 1) rfl
  | 2, _ => exact List.mem_of_getElem? (i := 2) rfl
  | 3, _ => exact List.mem_of_getElem? (i := 3) rfl
  | 4, _ => exact List.mem_of_getElem? (i := 4) rfl
  | 5, _ => exact List.mem_of_getElem? (i := 5) rfl
  | 6, _ => exact List.mem_of_getElem? (i := 6) rfl
  | 7, _ => exact List.mem_of_getElem? (i := 7) rfl
  | 8, _ => exact List.mem_of_getElem? (i := 8) rfl
  | x + 9, h => exact absurd h (by omega)
theorem w_91000 : (Jvm.Cond.superclass "MapHall$Sheet" "java/lang/Object") ∈ wsG := wsG_of (wsT1_in 105 rfl) rfl
theorem w_91001 : (Jvm.Cond.superclass "MapHall$State" "java/lang/Object") ∈ wsG := wsG_of (wsT1_in 133 rfl) rfl
theorem w_91002 : (Jvm.Cond.superclass "MapHall$History" "java/lang/Object") ∈ wsG := wsG_of (wsT1_in 153 rfl) rfl
theorem w_91003 : (Jvm.Cond.superclass "MapHall$Groups" "java/lang/Object") ∈ wsG := wsG_of (wsT1_in 163 rfl) rfl
theorem w_91004 : (Jvm.Cond.superclass "MapHall$Stacks" "java/lang/Object") ∈ wsG := wsG_of (wsT1_in 173 rfl) rfl
theorem w_91005 : (Jvm.Cond.superclass "MapHall$Script" "java/lang/Object") ∈ wsG := wsG_of (wsT1_in 198 rfl) rfl
theorem w_91006 : (Jvm.Cond.superclass "MapHall$Output" "java/lang/Object") ∈ wsG := wsG_of (wsT1_in 213 rfl) rfl
theorem w_91007 : (Jvm.Cond.superclass "MapHall" "java/lang/Object") ∈ wsG := wsG_of (wsT2_in 4 rfl) rfl
theorem w_91008 : (Jvm.Cond.superclass "java/lang/Throwable" "java/lang/Object") ∈ wsG := wsG_of (wsT2_in 97 rfl) rfl
theorem w_91009 : (Jvm.Cond.sameMethod "java/lang/Throwable" "java/lang/Throwable" "fillInStackTrace" "()Ljava/lang/Throwable;") ∈ wsG := wsG_of (wsT2_in 107 rfl) rfl
theorem w_91010 : (Jvm.Cond.superclass "java/lang/IndexOutOfBoundsException" "java/lang/RuntimeException") ∈ wsG := wsG_of (wsT2_in 145 rfl) rfl
theorem w_91011 : (Jvm.Cond.superclass "java/lang/IllegalArgumentException" "java/lang/RuntimeException") ∈ wsG := wsG_of (wsT2_in 162 rfl) rfl
theorem w_91012 : (Jvm.Cond.superclass "java/lang/IllegalStateException" "java/lang/RuntimeException") ∈ wsG := wsG_of (wsT2_in 178 rfl) rfl
theorem w_91013 : (Jvm.Cond.superclass "java/lang/UnsupportedOperationException" "java/lang/RuntimeException") ∈ wsG := wsG_of (wsT2_in 194 rfl) rfl
theorem w_91014 : (Jvm.Cond.superclass "java/util/NoSuchElementException" "java/lang/RuntimeException") ∈ wsG := wsG_of (wsT2_in 210 rfl) rfl
theorem w_91015 : (Jvm.Cond.superclass "java/lang/ArrayIndexOutOfBoundsException" "java/lang/IndexOutOfBoundsException") ∈ wsG := wsG_of (wsT2_in 232 rfl) rfl
theorem w_91016 : (Jvm.Cond.sameMethod "MapHall$Form" "java/lang/Enum" "ordinal" "()I") ∈ wsG := wsG_of (wsT4_in 96 rfl) rfl
theorem w_91017 : (Jvm.Cond.superclass "java/lang/ArithmeticException" "java/lang/RuntimeException") ∈ wsG := wsG_of (wsT4_in 165 rfl) rfl
theorem w_91018 : (Jvm.Cond.superclass "java/lang/StringBuilder" "java/lang/AbstractStringBuilder") ∈ wsG := wsG_of (wsT5_in 180 rfl) rfl
theorem w_91019 : (Jvm.Cond.sameMethod "[B" "java/lang/Object" "clone" "()Ljava/lang/Object;") ∈ wsG := wsG_of (wsT5_in 214 rfl) rfl
theorem w_91020 : (Jvm.Cond.sameMethod "java/lang/AbstractStringBuilder" "java/lang/AbstractStringBuilder" "isLatin1" "()Z") ∈ wsG := wsG_of (wsT5_in 224 rfl) rfl
theorem w_91021 : (Jvm.Cond.sameMethod "java/lang/AbstractStringBuilder" "java/lang/AbstractStringBuilder" "getValue" "()[B") ∈ wsG := wsG_of (wsT6_in 76 rfl) rfl
theorem w_91022 : (Jvm.Cond.sameMethod "java/lang/AbstractStringBuilder" "java/lang/AbstractStringBuilder" "length" "()I") ∈ wsG := wsG_of (wsT6_in 81 rfl) rfl
theorem w_91023 : (Jvm.Cond.superclass "java/lang/String" "java/lang/Object") ∈ wsG := wsG_of (wsT6_in 121 rfl) rfl
theorem w_91024 : (Jvm.Cond.sameMethod "java/lang/Throwable" "java/lang/Throwable" "fillInStackTrace" "(I)Ljava/lang/Throwable;") ∈ wsG := wsG_of (wsT7_in 26 rfl) rfl
theorem w_91025 : (Jvm.Cond.sameMethod "java/lang/AbstractStringBuilder" "java/lang/AbstractStringBuilder" "append" "(Ljava/lang/String;)Ljava/lang/AbstractStringBuilder;") ∈ wsG := wsG_of (wsT7_in 27 rfl) rfl
theorem w_91026 : (Jvm.Cond.sameMethod "java/lang/AbstractStringBuilder" "java/lang/AbstractStringBuilder" "appendNull" "()Ljava/lang/AbstractStringBuilder;") ∈ wsG := wsG_of (wsT7_in 28 rfl) rfl
theorem w_91027 : (Jvm.Cond.sameMethod "java/lang/AbstractStringBuilder" "java/lang/AbstractStringBuilder" "ensureCapacityInternal" "(I)V") ∈ wsG := wsG_of (wsT7_in 29 rfl) rfl
theorem w_91028 : (Jvm.Cond.sameMethod "java/lang/AbstractStringBuilder" "java/lang/AbstractStringBuilder" "newCapacity" "(I)I") ∈ wsG := wsG_of (wsT7_in 30 rfl) rfl
theorem w_91029 : (Jvm.Cond.sameMethod "java/lang/AbstractStringBuilder" "java/lang/AbstractStringBuilder" "putStringAt" "(ILjava/lang/String;)V") ∈ wsG := wsG_of (wsT7_in 31 rfl) rfl
theorem w_91030 : (Jvm.Cond.sameMethod "java/lang/AbstractStringBuilder" "java/lang/AbstractStringBuilder" "inflateIfNeededFor" "(Ljava/lang/String;)V") ∈ wsG := wsG_of (wsT7_in 32 rfl) rfl
theorem w_91031 : (Jvm.Cond.sameMethod "java/lang/AbstractStringBuilder" "java/lang/AbstractStringBuilder" "inflate" "()V") ∈ wsG := wsG_of (wsT7_in 33 rfl) rfl
theorem w_91032 : (Jvm.Cond.sameMethod "java/lang/AbstractStringBuilder" "java/lang/AbstractStringBuilder" "append" "(I)Ljava/lang/AbstractStringBuilder;") ∈ wsG := wsG_of (wsT7_in 34 rfl) rfl
theorem w_90000 : Cond.selects "java/lang/StringBuilder" ⟨"java/lang/AbstractStringBuilder", "ensureCapacityInternal", "(I)V"⟩ ⟨"java/lang/AbstractStringBuilder", "ensureCapacityInternal", "(I)V"⟩ ∈ wsG := List.mem_filter.mpr ⟨List.mem_append_right _ (List.mem_of_getElem? (i := 0) rfl), rfl⟩
theorem w_90001 : Cond.selects "java/lang/StringBuilder" ⟨"java/lang/AbstractStringBuilder", "putStringAt", "(ILjava/lang/String;)V"⟩ ⟨"java/lang/AbstractStringBuilder", "putStringAt", "(ILjava/lang/String;)V"⟩ ∈ wsG := List.mem_filter.mpr ⟨List.mem_append_right _ (List.mem_of_getElem? (i := 1) rfl), rfl⟩
theorem w_90002 : Cond.selects "java/lang/StringBuilder" ⟨"java/lang/AbstractStringBuilder", "inflateIfNeededFor", "(Ljava/lang/String;)V"⟩ ⟨"java/lang/AbstractStringBuilder", "inflateIfNeededFor", "(Ljava/lang/String;)V"⟩ ∈ wsG := List.mem_filter.mpr ⟨List.mem_append_right _ (List.mem_of_getElem? (i := 2) rfl), rfl⟩
/-- in a row of n -/
def inr (i : Int32) (n : Nat) : Bool := !(decide (i < 0) || decide (n ≤ i.toNatClampNeg))
theorem inr_ok {i : Int32} {n : Nat} (h : inr i n = true) : vp_in i n := by
  unfold inr at h
  simp only [Bool.not_eq_true', Bool.or_eq_false_iff, decide_eq_false_iff_not] at h
  rintro (h1 | h1)
  · exact h.1 h1
  · exact h.2 h1
def sV (M : Mem) (a : Nat) : Option Nat := if ROB + 20 ≤ a ∧ a < ROB + 63 then some (a + 80) else gP M 0 a 0
def sC (M : Mem) (a : Nat) : Option Int32 := if ROB + 20 ≤ a ∧ a < ROB + 63 then some 0 else gI M 0 a 1
def bL (M : Mem) (a : Nat) : Option Int32 := if ROB + 100 ≤ a ∧ a < ROB + 143 then some (Int32.ofNat (rtx.getD (a - (ROB + 100)) []).length) else aLn M 102 a
def bG (M : Mem) (a : Nat) (i : Int32) : Option Int32 := if ROB + 100 ≤ a ∧ a < ROB + 143 then (if inr i (rtx.getD (a - (ROB + 100)) []).length then some ((rtx.getD (a - (ROB + 100)) []).getD i.toNatClampNeg 0) else none) else if a = ROB + 12 then (if inr i 100 then some (Int32.ofNat (48 + i.toNatClampNeg % 10)) else none) else aI M 102 a i
def iL (G : Nat × (Nat → Int32) × Value) (M : Mem) (a : Nat) : Option Int32 := if a = ROB then some (Int32.ofNat G.1) else aLn M 100 a
def iG (G : Nat × (Nat → Int32) × Value) (M : Mem) (a : Nat) (i : Int32) : Option Int32 := if a = ROB then (if inr i G.1 then some (G.2.1 i.toNatClampNeg) else none) else aI M 100 a i
def sG (a : Nat) (i : Int32) : Option Int32 := if a = ROB + 2 ∧ inr i 9 = true then some (([1, 2, 3, 4, 5, 6, 7, 8, 0] : List Int32).getD i.toNatClampNeg 0) else none
def oG (a : Nat) (i : Int32) : Option Nat := if a = ROB + 1 ∧ inr i 9 = true then some (ROB + 3 + i.toNatClampNeg) else none
def oL (a : Nat) : Option Int32 := if a = ROB + 1 then some 9 else none
def fPat (a : Nat) : Option Nat := if ROB + 3 ≤ a ∧ a < ROB + 12 then some (a + 51) else none
def fOrd (a : Nat) : Option Int32 := if ROB + 3 ≤ a ∧ a < ROB + 12 then some (Int32.ofNat (a - (ROB + 3))) else none
def rcS (M : Mem) (o : Nat) : Option Unit := if (ROB + 20 ≤ o ∧ o < ROB + 63) ∨ ((mS M o).1 = 0 ∧ o < mN M) then some () else none
def rcF (o : Nat) : Option Unit := if ROB + 3 ≤ o ∧ o < ROB + 12 then some () else none
theorem rcS_ok {G : Nat × (Nat → Int32) × Value} {M : Mem} {o : Nat} {u : Unit} (h : rcS M o = some u) : Rcv (roG G) M "java/lang/String" o := by
  unfold rcS at h
  split at h
  · rename_i hh
    rcases hh with ⟨h1, h2⟩ | ⟨h1, h2⟩
    · obtain ⟨j, rfl⟩ : ∃ j, o = ROB + 20 + j := ⟨o - (ROB + 20), by omega⟩
      exact Or.inr (roO_s j (by omega))
    · exact Or.inl ⟨0, TJ0, 4, rfl, by decide, h1, h2⟩
  · cases h
theorem rcF_ok {G : Nat × (Nat → Int32) × Value} {M : Mem} {o : Nat} {u : Unit} (h : rcF o = some u) : Rcv (roG G) M "MapHall$Form" o := by
  unfold rcF at h
  split at h
  · rename_i hh
    obtain ⟨j, rfl⟩ : ∃ j, o = ROB + 3 + j := ⟨o - (ROB + 3), by omega⟩
    exact Or.inr (roO_f j (by omega))
  · cases h
section RO2
variable {G : Nat × (Nat → Int32) × Value} {g g1 : Bool} {n0 : Nat} {Y Y1 : MD} {d d1 k k1 pc : Nat} {L : List (Nat × Value)} {S as st0 : List Value} {M : Mem} {P P1 : Res → Mem → Prop} {idx n : Nat}
set_option maxRecDepth 20000 in
theorem fr_sV {a v : Nat} (hk : Jvm.Cond.fieldLink Y.1.cls idx "java/lang/String" "value" "[B" ∈ wsG) (hdg : decode Y.2.1 pc = .ok (.getfield idx, 3)) (h : sV M a = some v) (kk : Fr (roG G) g n0 Y d k (pc + 3) L (.ref v :: S) M P) : Fr (roG G) g n0 Y d k pc L (.ref a :: S) M P := by
  unfold sV at h
  split at h
  · rename_i hh
    obtain rfl := Option.some.inj h
    obtain ⟨j, rfl⟩ : ∃ j, a = ROB + 20 + j := ⟨a - (ROB + 20), by omega⟩
    have e : ROB + 20 + j + 80 = ROB + 100 + j := by omega
    rw [e] at kk
    exact fr_rgetf (roF_v j (by omega)) hk hdg kk
  · exact fr_gP cb0 0 (by decide) rfl hk hdg h kk
set_option maxRecDepth 20000 in
theorem fr_sC {a : Nat} {v : Int32} (hk : Jvm.Cond.fieldLink Y.1.cls idx "java/lang/String" "coder" "B" ∈ wsG) (hdg : decode Y.2.1 pc = .ok (.getfield idx, 3)) (h : sC M a = some v) (kk : Fr (roG G) g n0 Y d k (pc + 3) L (.int v :: S) M P) : Fr (roG G) g n0 Y d k pc L (.ref a :: S) M P := by
  unfold sC at h
  split at h
  · rename_i hh
    obtain rfl := Option.some.inj h
    obtain ⟨j, rfl⟩ : ∃ j, a = ROB + 20 + j := ⟨a - (ROB + 20), by omega⟩
    exact fr_rgetf (roF_c j (by omega)) hk hdg kk
  · exact fr_gI cb0 1 (by decide) rfl hk hdg h kk
theorem fr_fP {a v : Nat} (hk : Jvm.Cond.fieldLink Y.1.cls idx "MapHall$Form" "pattern" "Ljava/lang/String;" ∈ wsG) (hdg : decode Y.2.1 pc = .ok (.getfield idx, 3)) (h : fPat a = some v) (kk : Fr (roG G) g n0 Y d k (pc + 3) L (.ref v :: S) M P) : Fr (roG G) g n0 Y d k pc L (.ref a :: S) M P := by
  unfold fPat at h
  split at h
  · rename_i hh
    obtain rfl := Option.some.inj h
    obtain ⟨j, rfl⟩ : ∃ j, a = ROB + 3 + j := ⟨a - (ROB + 3), by omega⟩
    have e : ROB + 3 + j + 51 = ROB + 54 + j := by omega
    rw [e] at kk
    exact fr_rgetf (roF_p j (by omega)) hk hdg kk
  · cases h
theorem fr_fO {a : Nat} {v : Int32} (hk : Jvm.Cond.fieldLink Y.1.cls idx "java/lang/Enum" "ordinal" "I" ∈ wsG) (hdg : decode Y.2.1 pc = .ok (.getfield idx, 3)) (h : fOrd a = some v) (kk : Fr (roG G) g n0 Y d k (pc + 3) L (.int v :: S) M P) : Fr (roG G) g n0 Y d k pc L (.ref a :: S) M P := by
  unfold fOrd at h
  split at h
  · rename_i hh
    obtain rfl := Option.some.inj h
    obtain ⟨j, rfl⟩ : ∃ j, a = ROB + 3 + j := ⟨a - (ROB + 3), by omega⟩
    have e : ROB + 3 + j - (ROB + 3) = j := by omega
    rw [e] at kk
    exact fr_rgetf (roF_o j (by omega)) hk hdg kk
  · cases h
set_option maxRecDepth 20000 in
theorem fr_bL {a : Nat} {v : Int32} (h : bL M a = some v) (hdg : decode Y.2.1 pc = .ok (.arraylength, 1)) (kk : Fr (roG G) g n0 Y d k (pc + 1) L (.int v :: S) M P) : Fr (roG G) g n0 Y d k pc L (.ref a :: S) M P := by
  unfold bL at h
  split at h
  · rename_i hh
    obtain rfl := Option.some.inj h
    obtain ⟨j, rfl⟩ : ∃ j, a = ROB + 100 + j := ⟨a - (ROB + 100), by omega⟩
    rw [show ROB + 100 + j - (ROB + 100) = j by omega] at kk
    exact fr_ralen (List.mem_cons_of_mem _ (roT_b j (by omega))) rfl hdg kk
  · exact fr_aLn 2 (t := 102) rfl (by decide) h hdg kk
set_option maxRecDepth 20000 in
theorem fr_bG {a : Nat} {i v : Int32} (h : bG M a i = some v) (hdg : decode Y.2.1 pc = .ok (.baload, 1)) (kk : Fr (roG G) g n0 Y d k (pc + 1) L (.int v :: S) M P) : Fr (roG G) g n0 Y d k pc L (.int i :: .ref a :: S) M P := by
  unfold bG at h
  split at h
  · rename_i hh
    split at h
    · rename_i h2
      obtain rfl := Option.some.inj h
      obtain ⟨j, rfl⟩ : ∃ j, a = ROB + 100 + j := ⟨a - (ROB + 100), by omega⟩
      rw [show ROB + 100 + j - (ROB + 100) = j by omega] at kk h2
      exact fr_rbaload (List.mem_cons_of_mem _ (roT_b j (by omega))) (inr_ok h2) rfl hdg kk
    · cases h
  · split at h
    · rename_i h1
      subst h1
      split at h
      · rename_i h2
        obtain rfl := Option.some.inj h
        exact fr_rbaload (List.mem_cons_of_mem _ (List.mem_of_getElem? (l := roT) (i := 45) rfl)) (inr_ok h2) rfl hdg kk
      · cases h
    · unfold aI at h
      split at h
      · rename_i h2
        obtain rfl := Option.some.inj h
        exact fr_baload (n := (mS M a).2) (Prod.ext h2.1 rfl) h2.2.1 h2.2.2 hdg kk
      · cases h
set_option maxRecDepth 20000 in
theorem fr_iL {a : Nat} {v : Int32} (h : iL G M a = some v) (hdg : decode Y.2.1 pc = .ok (.arraylength, 1)) (kk : Fr (roG G) g n0 Y d k (pc + 1) L (.int v :: S) M P) : Fr (roG G) g n0 Y d k pc L (.ref a :: S) M P := by
  unfold iL at h
  split at h
  · rename_i hh
    obtain rfl := Option.some.inj h
    subst hh
    exact fr_ralen (show (FieldType.int, ROB, G.1, fun j : Nat => Value.int (G.2.1 j)) ∈ _ from List.mem_cons_self) rfl hdg kk
  · exact fr_aLn 0 (t := 100) rfl (by decide) h hdg kk
set_option maxRecDepth 20000 in
theorem fr_iG {a : Nat} {i v : Int32} (h : iG G M a i = some v) (hdg : decode Y.2.1 pc = .ok (.iaload, 1)) (kk : Fr (roG G) g n0 Y d k (pc + 1) L (.int v :: S) M P) : Fr (roG G) g n0 Y d k pc L (.int i :: .ref a :: S) M P := by
  unfold iG at h
  split at h
  · rename_i hh
    subst hh
    split at h
    · rename_i h2
      obtain rfl := Option.some.inj h
      exact fr_riaload (show (FieldType.int, ROB, G.1, fun j : Nat => Value.int (G.2.1 j)) ∈ _ from List.mem_cons_self) (inr_ok h2) rfl hdg kk
    · cases h
  · exact fr_aI0 h hdg kk
set_option maxRecDepth 20000 in
theorem fr_sG {a : Nat} {i v : Int32} (h : sG a i = some v) (hdg : decode Y.2.1 pc = .ok (.iaload, 1)) (kk : Fr (roG G) g n0 Y d k (pc + 1) L (.int v :: S) M P) : Fr (roG G) g n0 Y d k pc L (.int i :: .ref a :: S) M P := by
  unfold sG at h
  split at h
  · rename_i hh
    obtain rfl := Option.some.inj h
    obtain ⟨rfl, h2⟩ := hh
    exact fr_riaload (List.mem_cons_of_mem _ (List.mem_of_getElem? (l := roT) (i := 1) rfl)) (inr_ok h2) rfl hdg kk
  · cases h
set_option maxRecDepth 20000 in
theorem fr_oG {a v : Nat} {i : Int32} (h : oG a i = some v) (hdg : decode Y.2.1 pc = .ok (.aaload, 1)) (kk : Fr (roG G) g n0 Y d k (pc + 1) L (.ref v :: S) M P) : Fr (roG G) g n0 Y d k pc L (.int i :: .ref a :: S) M P := by
  unfold oG at h
  split at h
  · rename_i hh
    obtain rfl := Option.some.inj h
    obtain ⟨rfl, h2⟩ := hh
    exact fr_raaload (List.mem_cons_of_mem _ (List.mem_of_getElem? (l := roT) (i := 0) rfl)) (inr_ok h2) rfl hdg kk
  · cases h
set_option maxRecDepth 20000 in
theorem fr_oL {a : Nat} {v : Int32} (h : oL a = some v) (hdg : decode Y.2.1 pc = .ok (.arraylength, 1)) (kk : Fr (roG G) g n0 Y d k (pc + 1) L (.int v :: S) M P) : Fr (roG G) g n0 Y d k pc L (.ref a :: S) M P := by
  unfold oL at h
  split at h
  · rename_i hh
    obtain rfl := Option.some.inj h
    subst hh
    exact fr_ralen (List.mem_cons_of_mem _ (List.mem_of_getElem? (l := roT) (i := 0) rfl)) rfl hdg kk
  · cases h
/-! calls of methods above: inherited, private, overridden; and of the class above -/
theorem sel_priv {C : String} {y : MethodName} {n : Nat} {args : Array Value} {s : State} (hins : (Cond.instantiable C n).before args s = true) (hpriv : (Cond.privateMethod y).before args s = true) (hinst : (Cond.instanceMethod y).before args s = true) (hsame : (Cond.sameMethod y.cls y.cls y.name y.desc).before args s = true) (hy : y.cls ≠ "java/lang/invoke/MethodHandle" ∧ y.cls ≠ "java/lang/invoke/VarHandle") : (Cond.selects C y y).before args s = true := by
  obtain ⟨c, k, hc, hk, -, -, -, -⟩ := Cond.instantiable_spec hins
  obtain ⟨mk, methM, hnamed, hmethM, -, -⟩ := Cond.instanceMethod_spec hinst
  have hfound : s.methodFound? y.cls y.name y.desc = some mk := State.methodFound?_of_named hnamed hy
  have hsel : selectMethod {} s.vm c mk = .method mk := selectMethod_private hmethM (Cond.privateMethod_at hpriv mk methM hnamed hmethM)
  obtain ⟨cn, ck, r1, hcn, hck, hni, hf, hn1⟩ := Cond.sameMethod_found hsame
  have hcls : mk.cls = cn := Option.some.inj ((findClass_of_methodNamed hnamed).symm.trans hcn)
  simp only [Cond.before, Cond.holds, Cond.value, hc, hfound, hnamed, hsel, hcls, hck]
  simp
  exact hni
theorem cdW_in (hy : Cy Y1 n) (hh : Y1.2.2.2.2 = []) {args : Array Value} {s : State} (hts : ∀ w ∈ wsG, w.before args s = true) : (Cond.code Y1.1 Y1.2.1 Y1.2.2.1 Y1.2.2.2.1).before args s = true := by
  have h := hts _ hy.2.1
  unfold cdW at h
  rw [hh] at h
  exact h
theorem fr_callVU (k2 : Nat) {C owner : String} {o m0 : Nat} {x : MethodName} {b0 : ByteArray} {r0 : Option FieldType} (hev : Ev (roG G) g1 Y1 d1 k1 (.ref o :: as) M P1) (hh : Y1.2.2.2.2 = []) (hy : Cy Y1 n) (hk1 : Cond.methodLink Y.1.cls idx x ∈ wsG) (hk2 : Cond.instanceMethod Y1.1 ∈ wsG) (hk3 : Cond.sameMethod x.cls owner x.name x.desc ∈ wsG) (hk4 : Cond.instanceMethod ⟨owner, x.name, x.desc⟩ ∈ wsG) (hk5 : Cond.code ⟨owner, x.name, x.desc⟩ b0 m0 r0 ∈ wsG) (hsel : ∀ (args : Array Value) (s : State), (∀ w ∈ wsG, w.before args s = true) → (Cond.selects C x Y1.1).before args s = true) (hown : owner ≠ "java/lang/invoke/MethodHandle" ∧ owner ≠ "java/lang/invoke/VarHandle") (hds : x.desc = Y1.1.desc)
    (ho : Rcv (roG G) M C o) (hst : st0 = as.reverse ++ .ref o :: S) (hd : d1 + 1 ≤ d) (hkk : k1 + k2 ≤ k) (hn1 : as.length = n) (hS : (S.map fun v => v.category).sum ≤ 8) (hdg : decode Y.2.1 pc = .ok (.invokevirtual idx, 3)) (hgr : g1 = false ∨ (g = true ∧ clLS (mN M) L S = true ∧ Fok (roG G)))
    (kr : ∀ v M', P1 (.inl v) M' → mN M ≤ mN M' → Fr (roG G) g n0 Y d k2 (pc + 3) L (v.toList ++ S) M' P) (kx : ∀ E M', P1 (.inr E) M' → mN M ≤ mN M' → Fx (roG G) g n0 Y d k2 pc L M' E P) : Fr (roG G) g n0 Y d k pc L st0 M P := by
  intro p l e R s m args below meth c H locs cells slots mc ms ls D CA adE ad A hc ha hn hw hr hl
  subst hst
  obtain ⟨r1, r2⟩ := rm_ok (nL := Y1.2.2.1) hr hd hkk hy.2.2.2.1
  have hts := hc.2.2.2.2.1
  have hlen : ∀ sig, parseMethodDescriptor x.desc = some sig → n = sig.parameters.length := fun sig h => by
    have h2 := hy.1.2.2
    rw [← hds, h] at h2
    exact (Option.some.inj h2).symm
  refine fr_fin hc ha hn hw hr hl hkk hgr kr kx (vx_runU (x := x) (owner := owner) (C := C) (b := ad o) (y := Y1.1) (bytes := Y1.2.1) (maxL := Y1.2.2.1) (nL := Y.2.2.1) (ret := Y1.2.2.2.1) (Ts := wsG) (own := Y.1.cls) (As := as.map (cv ad)) (rest := S.map (cv ad)) (n := n) ⟨hc.1, hc.2.1, hc.2.2.1, hc.2.2.2.1, hts⟩ (hev l D CA ad H.size hc.2.2.2.2.2.2.2.2.1)
    ⟨⟨rfl, rfl, r1.1, r1.2, pay_in hts (wsY_good hy.2.1), by rw [wsY_code hh]; exact List.mem_cons_self⟩, cdW_in hy hh hts, hts _ hy.2.2.1, hown, hlen, hts _ hk1, hts _ hk3, va_Decl.of (hts _ hk4) (hts _ hk5), hsel _ _ hts, hts _ hk2⟩
    ⟨PcG_blind (roG G) D CA ad H.size (.ref o :: as) M, ho.cell hw, PcG_now (.ref o :: as) hw⟩ rfl (by rw [List.length_map]; exact hn1) hl.1 (by show List.map (cv ad) (as.reverse ++ .ref o :: S) = _; rw [List.map_append, List.map_reverse]; rfl) (by show 2 * 0 + _ ≤ 8; rw [cat_map]; omega) hdg r2)
theorem fr_callU (k2 : Nat) {C : String} {T : u_T} {o ci N : Nat} (hev : Ev (roG G) g1 Y1 d1 k1 (.ref o :: as) M P1) (hh : Y1.2.2.2.2 = []) (hy : Cy Y1 n) (hno : Y1.1.name ≠ "<init>") (hk1 : Cond.methodLink Y.1.cls idx Y1.1 ∈ wsG) (hk2 : Cond.instanceMethod Y1.1 ∈ wsG) (hk3 : Cond.sameMethod Y1.1.cls Y1.1.cls Y1.1.name Y1.1.desc ∈ wsG) (hk4 : Cond.superclass Y.1.cls Y1.1.cls ∈ wsG) (hcl : vwCl[ci]? = some (C, T, N)) (hci : ci < 100) (ho : rc M ci o = some ())
    (hst : st0 = as.reverse ++ .ref o :: S) (hd : d1 + 1 ≤ d) (hkk : k1 + k2 ≤ k) (hn1 : as.length = n) (hS : (S.map fun v => v.category).sum ≤ 8) (hdg : decode Y.2.1 pc = .ok (.invokespecial idx, 3)) (hgr : g1 = false ∨ (g = true ∧ clLS (mN M) L S = true ∧ Fok (roG G)))
    (kr : ∀ v M', P1 (.inl v) M' → mN M ≤ mN M' → Fr (roG G) g n0 Y d k2 (pc + 3) L (v.toList ++ S) M' P) (kx : ∀ E M', P1 (.inr E) M' → mN M ≤ mN M' → Fx (roG G) g n0 Y d k2 pc L M' E P) : Fr (roG G) g n0 Y d k pc L st0 M P := by
  intro p l e R s m args below meth c H locs cells slots mc ms ls D CA adE ad A hc ha hn hw hr hl
  subst hst
  obtain ⟨r1, r2⟩ := rm_ok (nL := Y1.2.2.1) hr hd hkk hy.2.2.2.1
  have hts := hc.2.2.2.2.1
  have hlen : ∀ sig, parseMethodDescriptor Y1.1.desc = some sig → n = sig.parameters.length := fun sig h => by
    have h2 := hy.1.2.2
    rw [h] at h2
    exact (Option.some.inj h2).symm
  refine fr_fin hc ha hn hw hr hl hkk hgr kr kx (vx_runSU (hw.1.1 ci _ hcl).2 (C := C) (b := ad o) (y := Y1.1) (bytes := Y1.2.1) (maxL := Y1.2.2.1) (nL := Y.2.2.1) (ret := Y1.2.2.2.1) (Ts := wsG) (own := Y.1.cls) (As := as.map (cv ad)) (rest := S.map (cv ad)) (n := n) ⟨hc.1, hc.2.1, hc.2.2.1, hc.2.2.2.1, hts⟩ (hev l D CA ad H.size hc.2.2.2.2.2.2.2.2.1)
    ⟨⟨rfl, rfl, r1.1, r1.2, pay_in hts (wsY_good hy.2.1), by rw [wsY_code hh]; exact List.mem_cons_self⟩, hts _ hk1, hts _ hk3, hts _ hk4, hts _ hk2, hts _ hy.2.2.1, cdW_in hy hh hts, hno, hlen⟩
    ⟨PcG_blind (roG G) D CA ad H.size (.ref o :: as) M, (rc_ok (F := roG G) ho hcl hci).cell hw, PcG_now (.ref o :: as) hw⟩ rfl (by rw [List.length_map]; exact hn1) hl.1 (by show List.map (cv ad) (as.reverse ++ .ref o :: S) = _; rw [List.map_append, List.map_reverse]; rfl) (by show 2 * 0 + _ ≤ 8; rw [cat_map]; omega) hdg r2)
/-! bytes copied, out of a text that nobody writes or out of the memory -/
def mCpyR (M : Mem) (f : Nat → Int32) (b sp dp n : Nat) : Mem := (M.1, M.2.1, (fun k => if k = b then va_cpy f (mI M b) sp dp n else M.2.2.1 k), M.2.2.2.1, M.2.2.2.2)
theorem ws_cpyR {CA : Nat → ClassId} {ad : Nat → Nat} {M : Mem} {f : Nat → Int32} {b t N sp dp n : Nat} (hs : mS M b = (t, N)) (h1 : 100 ≤ t) (h2 : t < 110) : (wsM CA ad M).set b (ad b, .inl (CA t, N, .inl (va_cpy f (mI M b) sp dp n))) = wsM CA ad (mCpyR M f b sp dp n) := by
  refine wsM_set rfl ?_ (fun i hi => ?_)
  · unfold cn
    rw [show mS (mCpyR M f b sp dp n) b = (t, N) from hs, if_neg (show ¬ t < 100 by omega), if_pos h2]
    rw [show mI (mCpyR M f b sp dp n) b = va_cpy f (mI M b) sp dp n from if_pos rfl]
  · have e : mI (mCpyR M f b sp dp n) i = mI M i := if_neg hi
    unfold cn fsM
    rw [e]
    rfl
def cpB (M : Mem) (a b : Nat) (sp dp n : Int32) : Option Mem :=
  if ROB + 100 ≤ a ∧ a < ROB + 143 then (if (mS M b).1 = 102 ∧ b < mN M ∧ ¬ sp < 0 ∧ ¬ dp < 0 ∧ ¬ n < 0 ∧ sp.toNatClampNeg + n.toNatClampNeg ≤ (rtx.getD (a - (ROB + 100)) []).length ∧ dp.toNatClampNeg + n.toNatClampNeg ≤ (mS M b).2 ∧ ((rtx.getD (a - (ROB + 100)) []).all fun x => fits .byte (.int x)) = true then some (mCpyR M (fun i => (rtx.getD (a - (ROB + 100)) []).getD i 0) b sp.toNatClampNeg dp.toNatClampNeg n.toNatClampNeg) else none)
  else cpy M 102 a b .byte sp dp n
set_option maxRecDepth 20000 in
theorem fr_cpB {a b : Nat} {sp dp n : Int32} {idx : Nat} {M' : Mem} (hk1 : Cond.methodLink Y.1.cls idx arraycopyName ∈ wsG) (hk2 : Cond.native arraycopyName ∈ wsG) (hk3 : Cond.static arraycopyName ∈ wsG) (hk4 : Cond.initialized "java/lang/System" ∈ wsG) (hd : 1 ≤ d) (hS9 : (S.map fun v => v.category).sum ≤ 8) (hdg : decode Y.2.1 pc = .ok (.invokestatic idx, 3)) (h : cpB M a b sp dp n = some M') (kk : Fr (roG G) g n0 Y d k (pc + 3) L S M' P) : Fr (roG G) g n0 Y d k pc L (.int n :: .int dp :: .ref b :: .int sp :: .ref a :: S) M P := by
  unfold cpB at h
  split at h
  · rename_i hr9
    split at h
    · rename_i hh
      obtain ⟨q1, q2, h1, h2, h3, h4, h5, hft⟩ := hh
      cases h
      obtain ⟨j, rfl⟩ : ∃ j, a = ROB + 100 + j := ⟨a - (ROB + 100), by omega⟩
      rw [show ROB + 100 + j - (ROB + 100) = j by omega] at h4 hft kk
      intro p l e R s m args below meth c H locs cells slots mc ms ls D CA adE ad A hc ha hn hw hr hl
      have hts := hc.2.2.2.2.1
      have nn : ∀ z : Int32, ¬ z < 0 → z.toInt = (z.toNatClampNeg : Int) := by
        intro z hz
        have hz0 : (0 : Int) ≤ z.toInt := by
          have := Int32.not_lt.mp hz
          simpa using Int32.le_iff_toInt_le.mp this
        show z.toInt = ((z.toInt.toNat : Nat) : Int)
        omega
      intro T hT X
      have hS := hw.2.2.2.2.1
      obtain ⟨scr, hc0, ⟨hs6, k0, hk0, cm0, hkk0⟩, hs3, hs4, -, hs5, -⟩ := (hw.2.1.2.2.2.1 _ (List.mem_cons_of_mem _ (roT_b j (by omega)))).kept hS.2.1
      have hws := ws_int (CA := CA) (ad := ad) (M := M) (a := b) (t := 102) (n := (mS M b).2) q2 (Prod.ext q1 rfl) (by decide) (by decide)
      have hc1 := hw.2.2.1 b _ hws
      have ht1 : (tyL CA)[2]? = some (CA 102, .byte) := rfl
      obtain ⟨-, k1, hk1', cm1, hkk1⟩ := (hw.1.2 2 _ ht1).1 (mS M b).2 (fun j => .int (mI M b j))
      have hloc : 2 * 0 + ((S.map (cv ad)).map fun v => v.category).sum + (nativeFrameWords "java/lang/System" "arraycopy" 5 + 11) ≤ R.locals := by
        rw [cat_map]
        have e7 : nativeFrameWords "java/lang/System" "arraycopy" 5 = 7 := by decide
        have := hr.2.1
        omega
      have hnat : ∀ i, i < n.toNatClampNeg → sp.toNatClampNeg + i < (rtx.getD j []).length := fun i hi => by omega
      obtain ⟨vm', X', step⟩ := X.arraycopy hc.1 hc.2.2.2.1 (hts _ hk1) (hts _ hk2) (hts _ hk3) (hts _ hk4) (src := ad (ROB + 100 + j)) (dst := ad b) (cs := scr) (cd := vp_cell (CA 102) ((mS M b).2, .inl (mI M b))) (srcPos := sp) (destPos := dp) (n := n) (by rw [hT]; exact hc0) (by rw [hT]; exact hc1)
        hs6 (fun _ h => by cases h) hs3 (fun h => by cases h) hk0 hk1' hkk0 hkk1 (by simp [refKind]) h1 h2 h3
        (by rw [nn sp h1, nn n h3]; have : (rtx.getD j []).length ≤ scr.slots.size := hs4; omega)
        (by rw [nn dp h2, nn n h3]; show ¬ _ > ((arrV (CA 102) (mS M b).2 (fun j => .int (mI M b j))).slots.size : Int); rw [arrV_size]; omega)
        (fun vm₁ _ i hi => by
          have e : scr.slots.getD (sp.toNatClampNeg + i) .null = .int ((rtx.getD j []).getD (sp.toNatClampNeg + i) 0) := by
            rw [Array.getD_eq_getD_getElem?, hs5 _ (hnat i hi)]
            rfl
          refine ⟨?_, ?_⟩
          · rw [e]
            have h7 := hnat i hi
            rw [List.getD_eq_getElem?_getD, List.getElem?_eq_getElem h7]
            exact List.all_eq_true.mp hft _ (List.getElem_mem h7)
          · rw [e]
            exact trivial)
        (g := F0 m pc ls ((Value.int n :: .int dp :: .ref b :: .int sp :: .ref (ROB + 100 + j) :: S).map (cv ad))) rfl (by show ls.size = _; rw [hl.1, hc.2.2.1]) (rest := S.map (cv ad)) rfl (by rw [hc.2.1]; exact hdg) (Nat.le_trans hd hr.1) hloc
      have e1 : copied scr (vp_cell (CA 102) ((mS M b).2, .inl (mI M b))) sp dp n = vp_cell (CA 102) ((mS M b).2, .inl (va_cpy (fun i => (rtx.getD j []).getD i 0) (mI M b) sp.toNatClampNeg dp.toNatClampNeg n.toNatClampNeg)) := va_copiedX (fun z => .int z) scr (CA 102) (fun i => (rtx.getD j []).getD i 0) (mI M b) hs5 h4
      rw [e1] at X' step
      have hl9 : ad b < H.size := (Array.getElem?_eq_some_iff.mp hc1).1
      have hD := hw.2.2.2.1
      have hheap : ((T.setVm vm').setCell (ad b) (vp_cell (CA 102) ((mS M b).2, .inl (va_cpy (fun i => (rtx.getD j []).getD i 0) (mI M b) sp.toNatClampNeg dp.toNatClampNeg n.toNatClampNeg)))).heap = H.setIfInBounds (ad b) (vp_cell (CA 102) ((mS M b).2, .inl (va_cpy (fun i => (rtx.getD j []).getD i 0) (mI M b) sp.toNatClampNeg dp.toNatClampNeg n.toNatClampNeg))) := by rw [← hT]; rfl
      have oq : ∀ q : Nat, q ≠ ad b → (H.setIfInBounds (ad b) (vp_cell (CA 102) ((mS M b).2, .inl (va_cpy (fun i => (rtx.getD j []).getD i 0) (mI M b) sp.toNatClampNeg dp.toNatClampNeg n.toNatClampNeg))))[q]? = H[q]? := fun q hq => by simp [Array.getElem?_setIfInBounds, Ne.symm hq]
      have hP9 := hw.2.2.1.set (e := .inl (CA 102, (mS M b).2, .inl (va_cpy (fun i => (rtx.getD j []).getD i 0) (mI M b) sp.toNatClampNeg dp.toNatClampNeg n.toNatClampNeg))) hD hws (show (H.setIfInBounds (ad b) (vp_cell (CA 102) ((mS M b).2, .inl (va_cpy (fun i => (rtx.getD j []).getD i 0) (mI M b) sp.toNatClampNeg dp.toNatClampNeg n.toNatClampNeg))))[ad b]? = some (vp_cell (CA 102) ((mS M b).2, .inl (va_cpy (fun i => (rtx.getD j []).getD i 0) (mI M b) sp.toNatClampNeg dp.toNatClampNeg n.toNatClampNeg))) by rw [Array.getElem?_setIfInBounds, if_pos rfl, if_pos hl9]) oq
      have hD9 := hD.set (e := .inl (CA 102, (mS M b).2, .inl (va_cpy (fun i => (rtx.getD j []).getD i 0) (mI M b) sp.toNatClampNeg dp.toNatClampNeg n.toNatClampNeg))) hws
      rw [ws_cpyR (Prod.ext q1 rfl) (by decide) (by decide)] at hP9 hD9
      obtain ⟨t, a1, b1⟩ := kk p l e R s m args below meth c _ _ cells slots mc ms ls D CA adE ad A hc ha hn ⟨hw.1, hw.2.1, hP9, hD9, ⟨by simp; exact hS.1, fun q g1 g2 => by
          rw [oq q (fun e => g2 (by rw [e]; exact hD.2 b _ hws))]
          exact hS.2.1 q g1 g2, fun q hq => by
          rcases List.mem_append.mp hq with h | h
          · exact hS.2.2 q h
          · obtain ⟨z, -, hz⟩ := List.mem_map.mp h
            rw [← hz]
            exact hD.2 b _ hws⟩, hw.2.2.2.2.2.1, hw.2.2.2.2.2.2⟩ hr hl _ hheap X'
      exact ⟨t, step t a1, b1⟩
    · cases h
  · exact fr_cpy 2 (t := 102) rfl (by decide) (by decide) rfl hk1 hk2 hk3 hk4 hd hS9 hdg h kk
end RO2

