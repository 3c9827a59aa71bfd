theorem wsP_in {w : Cond} (i : Nat) (h : (k2_sels lw_privs)[i]? = some w) : w ∈ lw_tbl := List.mem_append_left _ (List.mem_of_getElem? h)
theorem wsT1_in {w : Cond} (i : Nat) (h9 : tables_1_1[i]? = some w) : w ∈ lw_tbl := by
  have h := List.mem_of_getElem? h9
  exact List.mem_append_right _ (show w ∈ tables_1 from (List.mem_append_left _ h))
theorem wsT2_in {w : Cond} (i : Nat) (h9 : tables_1_2[i]? = some w) : w ∈ lw_tbl := by
  have h := List.mem_of_getElem? h9
  exact List.mem_append_right _ (show w ∈ tables_1 from (List.mem_append_right _ (List.mem_append_left _ h)))
theorem wsT3_in {w : Cond} (i : Nat) (h9 : tables_1_3[i]? = some w) : w ∈ lw_tbl := by
  have h := List.mem_of_getElem? h9
  exact List.mem_append_right _ (show w ∈ tables_1 from (List.mem_append_right _ (List.mem_append_right _ (List.mem_append_left _ h))))
theorem wsT4_in {w : Cond} (i : Nat) (h9 : tables_1_4[i]? = some w) : w ∈ lw_tbl := by
  have h := List.mem_of_getElem? h9
  exact List.mem_append_right _ (show w ∈ tables_1 from (List.mem_append_right _ (List.mem_append_right _ (List.mem_append_right _ (List.mem_append_left _ h)))))
theorem wsT5_in {w : Cond} (i : Nat) (h9 : tables_1_5[i]? = some w) : w ∈ lw_tbl := by
  have h := List.mem_of_getElem? h9
  exact List.mem_append_right _ (show w ∈ tables_1 from (List.mem_append_right _ (List.mem_append_right _ (List.mem_append_right _ (List.mem_append_right _ (List.mem_append_left _ h))))))
theorem wsT6_in {w : Cond} (i : Nat) (h9 : tables_1_6[i]? = some w) : w ∈ lw_tbl := by
  have h := List.mem_of_getElem? h9
  exact List.mem_append_right _ (show w ∈ tables_1 from (List.mem_append_right _ (List.mem_append_right _ (List.mem_append_right _ (List.mem_append_right _ (List.mem_append_right _ (List.mem_append_left _ h)))))))
theorem wsT7_in {w : Cond} (i : Nat) (h9 : tables_1_7[i]? = some w) : w ∈ lw_tbl := by
  have h := List.mem_of_getElem? h9
  exact List.mem_append_right _ (show w ∈ tables_1 from (List.mem_append_right _ (List.mem_append_right _ (List.mem_append_right _ (List.mem_append_right _ (List.mem_append_right _ (List.mem_append_right _ h)))))))
theorem w_0 : Cond.selects "MapHall" ⟨"MapHall", "recorded", "(I)I"⟩ ⟨"MapHall", "recorded", "(I)I"⟩ ∈ wsG := wsG_of (wsP_in 0 rfl) rfl
theorem w_1 : Cond.selects "java/lang/Throwable" ⟨"java/lang/Throwable", "fillInStackTrace", "(I)Ljava/lang/Throwable;"⟩ ⟨"java/lang/Throwable", "fillInStackTrace", "(I)Ljava/lang/Throwable;"⟩ ∈ wsG := wsG_of (wsP_in 1 rfl) rfl
theorem w_2 : Cond.selects "MapHall" ⟨"MapHall", "demandedSheet", "(I)LMapHall$Sheet;"⟩ ⟨"MapHall", "demandedSheet", "(I)LMapHall$Sheet;"⟩ ∈ wsG := wsG_of (wsP_in 2 rfl) rfl
theorem w_3 : Cond.selects "MapHall" ⟨"MapHall", "demandOccupied", "(I)V"⟩ ⟨"MapHall", "demandOccupied", "(I)V"⟩ ∈ wsG := wsG_of (wsP_in 3 rfl) rfl
theorem w_4 : Cond.selects "MapHall$Script" ⟨"MapHall$Script", "noteCommand", "(III)Z"⟩ ⟨"MapHall$Script", "noteCommand", "(III)Z"⟩ ∈ wsG := wsG_of (wsP_in 4 rfl) rfl
theorem w_5 : Cond.selects "MapHall" ⟨"MapHall", "carryOutAll", "()I"⟩ ⟨"MapHall", "carryOutAll", "()I"⟩ ∈ wsG := wsG_of (wsP_in 5 rfl) rfl
theorem w_6 : Cond.selects "MapHall" ⟨"MapHall", "answerOfCommand", "(I)I"⟩ ⟨"MapHall", "answerOfCommand", "(I)I"⟩ ∈ wsG := wsG_of (wsP_in 6 rfl) rfl
theorem w_7 : Cond.selects "MapHall" ⟨"MapHall", "demandFewEmptyCells", "()V"⟩ ⟨"MapHall", "demandFewEmptyCells", "()V"⟩ ∈ wsG := wsG_of (wsP_in 7 rfl) rfl
theorem w_8 : Cond.selects "MapHall$Output" ⟨"MapHall$Output", "write", "(C)V"⟩ ⟨"MapHall$Output", "write", "(C)V"⟩ ∈ wsG := wsG_of (wsP_in 8 rfl) rfl
theorem w_9 : Cond.selects "MapHall$Output" ⟨"MapHall$Output", "writeDigit", "(I)V"⟩ ⟨"MapHall$Output", "writeDigit", "(I)V"⟩ ∈ wsG := wsG_of (wsP_in 9 rfl) rfl
theorem w_10 : Cond.selects "MapHall$Output" ⟨"MapHall$Output", "writeTimes", "(CI)V"⟩ ⟨"MapHall$Output", "writeTimes", "(CI)V"⟩ ∈ wsG := wsG_of (wsP_in 10 rfl) rfl
theorem w_11 : Cond.selects "MapHall$State" ⟨"MapHall$State", "countBefore", "(I)I"⟩ ⟨"MapHall$State", "countBefore", "(I)I"⟩ ∈ wsG := wsG_of (wsP_in 11 rfl) rfl
theorem w_12 : Cond.selects "MapHall$State" ⟨"MapHall$State", "comesBefore", "(II)Z"⟩ ⟨"MapHall$State", "comesBefore", "(II)Z"⟩ ∈ wsG := wsG_of (wsP_in 12 rfl) rfl
theorem w_13 : (Jvm.Cond.initialized "MapHallLaw") ∈ wsG := wsG_of (wsT1_in 0 rfl) rfl
theorem w_14 : (Jvm.Cond.initialized "MapHall") ∈ wsG := wsG_of (wsT1_in 1 rfl) rfl
theorem w_15 : (Jvm.Cond.initialized "MapHall$State") ∈ wsG := wsG_of (wsT1_in 2 rfl) rfl
theorem w_16 : (Jvm.Cond.initialized "MapHall$Sheet") ∈ wsG := wsG_of (wsT1_in 3 rfl) rfl
theorem w_17 : (Jvm.Cond.initialized "MapHall$History") ∈ wsG := wsG_of (wsT1_in 4 rfl) rfl
theorem w_18 : (Jvm.Cond.initialized "MapHall$Groups") ∈ wsG := wsG_of (wsT1_in 5 rfl) rfl
theorem w_19 : (Jvm.Cond.initialized "MapHall$Stacks") ∈ wsG := wsG_of (wsT1_in 6 rfl) rfl
theorem w_20 : (Jvm.Cond.initialized "MapHall$Script") ∈ wsG := wsG_of (wsT1_in 7 rfl) rfl
theorem w_21 : (Jvm.Cond.initialized "MapHall$Output") ∈ wsG := wsG_of (wsT1_in 8 rfl) rfl
theorem w_22 : (Jvm.Cond.initialized "java/lang/Throwable") ∈ wsG := wsG_of (wsT1_in 9 rfl) rfl
theorem w_23 : (Jvm.Cond.initialized "java/lang/Exception") ∈ wsG := wsG_of (wsT1_in 10 rfl) rfl
theorem w_24 : (Jvm.Cond.initialized "java/lang/RuntimeException") ∈ wsG := wsG_of (wsT1_in 11 rfl) rfl
theorem w_25 : (Jvm.Cond.initialized "java/lang/IllegalStateException") ∈ wsG := wsG_of (wsT1_in 12 rfl) rfl
theorem w_26 : (Jvm.Cond.initialized "java/lang/System") ∈ wsG := wsG_of (wsT1_in 13 rfl) rfl
theorem w_27 : (Jvm.Cond.initialized "java/lang/IndexOutOfBoundsException") ∈ wsG := wsG_of (wsT1_in 14 rfl) rfl
theorem w_28 : (Jvm.Cond.initialized "java/lang/IllegalArgumentException") ∈ wsG := wsG_of (wsT1_in 15 rfl) rfl
theorem w_29 : (Jvm.Cond.initialized "java/lang/UnsupportedOperationException") ∈ wsG := wsG_of (wsT1_in 16 rfl) rfl
theorem w_30 : (Jvm.Cond.initialized "java/util/NoSuchElementException") ∈ wsG := wsG_of (wsT1_in 17 rfl) rfl
theorem w_31 : (Jvm.Cond.initialized "java/lang/Math") ∈ wsG := wsG_of (wsT1_in 18 rfl) rfl
theorem w_32 : (Jvm.Cond.initialized "java/lang/String") ∈ wsG := wsG_of (wsT1_in 19 rfl) rfl
theorem w_33 : (Jvm.Cond.initialized "java/lang/StringLatin1") ∈ wsG := wsG_of (wsT1_in 20 rfl) rfl
theorem w_34 : (Jvm.Cond.initialized "jdk/internal/util/Preconditions") ∈ wsG := wsG_of (wsT1_in 21 rfl) rfl
theorem w_35 : (Jvm.Cond.initialized "java/lang/StringUTF16") ∈ wsG := wsG_of (wsT1_in 22 rfl) rfl
theorem w_36 : (Jvm.Cond.initialized "java/lang/Enum") ∈ wsG := wsG_of (wsT1_in 23 rfl) rfl
theorem w_37 : (Jvm.Cond.initialized "MapHall$Form") ∈ wsG := wsG_of (wsT1_in 24 rfl) rfl
theorem w_38 : (Jvm.Cond.initialized "MapHall$1") ∈ wsG := wsG_of (wsT1_in 25 rfl) rfl
theorem w_39 : (Jvm.Cond.initialized "java/lang/ArrayIndexOutOfBoundsException") ∈ wsG := wsG_of (wsT1_in 26 rfl) rfl
theorem w_40 : (Jvm.Cond.initialized "java/lang/ArithmeticException") ∈ wsG := wsG_of (wsT1_in 27 rfl) rfl
theorem w_41 : (Jvm.Cond.initialized "java/lang/Number") ∈ wsG := wsG_of (wsT1_in 28 rfl) rfl
theorem w_42 : (Jvm.Cond.initialized "java/lang/Double") ∈ wsG := wsG_of (wsT1_in 29 rfl) rfl
theorem w_43 : (Jvm.Cond.initialized "java/lang/Float") ∈ wsG := wsG_of (wsT1_in 30 rfl) rfl
theorem w_44 : (Jvm.Cond.initialized "MapHall$Points") ∈ wsG := wsG_of (wsT1_in 31 rfl) rfl
theorem w_45 : (Jvm.Cond.initialized "java/lang/Integer") ∈ wsG := wsG_of (wsT1_in 32 rfl) rfl
theorem w_46 : (Jvm.Cond.initialized "java/lang/AbstractStringBuilder") ∈ wsG := wsG_of (wsT1_in 33 rfl) rfl
theorem w_47 : (Jvm.Cond.initialized "java/lang/StringBuilder") ∈ wsG := wsG_of (wsT1_in 34 rfl) rfl
theorem w_48 : (Jvm.Cond.initialized "jdk/internal/util/ArraysSupport") ∈ wsG := wsG_of (wsT1_in 35 rfl) rfl
theorem w_49 : (Jvm.Cond.initialized "java/util/Arrays") ∈ wsG := wsG_of (wsT1_in 36 rfl) rfl
theorem w_50 : (Jvm.Cond.classLink "MapHallLaw" (8 : Nat) "MapHall") ∈ wsG := wsG_of (wsT1_in 37 rfl) rfl
theorem w_51 : (Jvm.Cond.instantiable "MapHall" (10 : Nat)) ∈ wsG := wsG_of (wsT1_in 38 rfl) rfl
theorem w_52 : (Jvm.Cond.methodLink "MapHallLaw" (340 : Nat) ({ cls := "MapHall", name := "<init>", desc := "()V" } : Jvm.MethodName)) ∈ wsG := wsG_of (wsT1_in 39 rfl) rfl
theorem w_53 : (Jvm.Cond.instanceMethod ({ cls := "MapHall", name := "<init>", desc := "()V" } : Jvm.MethodName)) ∈ wsG := wsG_of (wsT1_in 40 rfl) rfl
theorem w_54 : (Jvm.Cond.code ({ cls := "MapHall", name := "<init>", desc := "()V" } : Jvm.MethodName) prog_1_method_1_code (1 : Nat) (Option.none : Option Jvm.ClassFile.FieldType)) ∈ wsG := wsG_of (wsT1_in 41 rfl) rfl
theorem w_55 : (Jvm.Cond.methodLink "MapHall" (3 : Nat) ({ cls := "java/lang/Object", name := "<init>", desc := "()V" } : Jvm.MethodName)) ∈ wsG := wsG_of (wsT1_in 42 rfl) rfl
theorem w_56 : (Jvm.Cond.instanceMethod ({ cls := "java/lang/Object", name := "<init>", desc := "()V" } : Jvm.MethodName)) ∈ wsG := wsG_of (wsT1_in 43 rfl) rfl
theorem w_57 : (Jvm.Cond.code ({ cls := "java/lang/Object", name := "<init>", desc := "()V" } : Jvm.MethodName) object_method_1_code (1 : Nat) (Option.none : Option Jvm.ClassFile.FieldType)) ∈ wsG := wsG_of (wsT1_in 44 rfl) rfl
theorem w_58 : (Jvm.Cond.classLink "MapHall" (9 : Nat) "MapHall$State") ∈ wsG := wsG_of (wsT1_in 45 rfl) rfl
theorem w_59 : (Jvm.Cond.instantiable "MapHall$State" (6 : Nat)) ∈ wsG := wsG_of (wsT1_in 46 rfl) rfl
theorem w_60 : (Jvm.Cond.methodLink "MapHall" (11 : Nat) ({ cls := "MapHall$State", name := "<init>", desc := "()V" } : Jvm.MethodName)) ∈ wsG := wsG_of (wsT1_in 47 rfl) rfl
theorem w_61 : (Jvm.Cond.instanceMethod ({ cls := "MapHall$State", name := "<init>", desc := "()V" } : Jvm.MethodName)) ∈ wsG := wsG_of (wsT1_in 48 rfl) rfl
theorem w_62 : (Jvm.Cond.code ({ cls := "MapHall$State", name := "<init>", desc := "()V" } : Jvm.MethodName) prog_11_method_1_code (2 : Nat) (Option.none : Option Jvm.ClassFile.FieldType)) ∈ wsG := wsG_of (wsT1_in 49 rfl) rfl
theorem w_63 : (Jvm.Cond.methodLink "MapHall$State" (3 : Nat) ({ cls := "java/lang/Object", name := "<init>", desc := "()V" } : Jvm.MethodName)) ∈ wsG := wsG_of (wsT1_in 50 rfl) rfl
theorem w_64 : (Jvm.Cond.classLink "MapHall$State" (9 : Nat) "MapHall$Sheet") ∈ wsG := wsG_of (wsT1_in 51 rfl) rfl
theorem w_66 : (Jvm.Cond.instantiable "MapHall$Sheet" (8 : Nat)) ∈ wsG := wsG_of (wsT1_in 53 rfl) rfl
theorem w_68 : (Jvm.Cond.instanceMethod ({ cls := "MapHall$Sheet", name := "<init>", desc := "()V" } : Jvm.MethodName)) ∈ wsG := wsG_of (wsT1_in 55 rfl) rfl
theorem w_69 : (Jvm.Cond.code ({ cls := "MapHall$Sheet", name := "<init>", desc := "()V" } : Jvm.MethodName) prog_9_method_1_code (1 : Nat) (Option.none : Option Jvm.ClassFile.FieldType)) ∈ wsG := wsG_of (wsT1_in 56 rfl) rfl
theorem w_70 : (Jvm.Cond.methodLink "MapHall$Sheet" (3 : Nat) ({ cls := "java/lang/Object", name := "<init>", desc := "()V" } : Jvm.MethodName)) ∈ wsG := wsG_of (wsT1_in 57 rfl) rfl
theorem w_71 : (Jvm.Cond.fieldLink "MapHall$Sheet" (9 : Nat) "MapHall$Sheet" "borders" "[I") ∈ wsG := wsG_of (wsT1_in 58 rfl) rfl
theorem w_72 : (Jvm.Cond.fieldLink "MapHall$Sheet" (15 : Nat) "MapHall$Sheet" "creases" "[C") ∈ wsG := wsG_of (wsT1_in 59 rfl) rfl
theorem w_73 : (Jvm.Cond.fieldLink "MapHall$Output" (61 : Nat) "MapHall$Sheet" "creases" "[C") ∈ wsG := wsG_of (wsT1_in 60 rfl) rfl
theorem w_74 : (Jvm.Cond.fieldLink "MapHall$State" (70 : Nat) "MapHall$Sheet" "creases" "[C") ∈ wsG := wsG_of (wsT1_in 61 rfl) rfl
theorem w_75 : (Jvm.Cond.fieldLink "MapHall$Stacks" (48 : Nat) "MapHall$Sheet" "creases" "[C") ∈ wsG := wsG_of (wsT1_in 62 rfl) rfl
theorem w_76 : (Jvm.Cond.fieldLink "MapHall" (138 : Nat) "MapHall$Sheet" "creases" "[C") ∈ wsG := wsG_of (wsT1_in 63 rfl) rfl
theorem w_77 : (Jvm.Cond.fieldLink "MapHall$Sheet" (19 : Nat) "MapHall$Sheet" "type" "C") ∈ wsG := wsG_of (wsT1_in 64 rfl) rfl
theorem w_78 : (Jvm.Cond.fieldLink "MapHall$Points" (15 : Nat) "MapHall$Sheet" "type" "C") ∈ wsG := wsG_of (wsT1_in 65 rfl) rfl
theorem w_79 : (Jvm.Cond.fieldLink "MapHall$Output" (50 : Nat) "MapHall$Sheet" "type" "C") ∈ wsG := wsG_of (wsT1_in 66 rfl) rfl
theorem w_80 : (Jvm.Cond.fieldLink "MapHall" (103 : Nat) "MapHall$Sheet" "type" "C") ∈ wsG := wsG_of (wsT1_in 67 rfl) rfl
theorem w_81 : (Jvm.Cond.fieldLink "MapHall$State" (136 : Nat) "MapHall$Sheet" "type" "C") ∈ wsG := wsG_of (wsT1_in 68 rfl) rfl
theorem w_82 : (Jvm.Cond.fieldLink "MapHall$Stacks" (19 : Nat) "MapHall$Sheet" "creaseTotal" "I") ∈ wsG := wsG_of (wsT1_in 69 rfl) rfl
theorem w_83 : (Jvm.Cond.fieldLink "MapHall$Output" (58 : Nat) "MapHall$Sheet" "creaseTotal" "I") ∈ wsG := wsG_of (wsT1_in 70 rfl) rfl
theorem w_84 : (Jvm.Cond.fieldLink "MapHall$Sheet" (33 : Nat) "MapHall$Sheet" "creaseTotal" "I") ∈ wsG := wsG_of (wsT1_in 71 rfl) rfl
theorem w_85 : (Jvm.Cond.fieldLink "MapHall$State" (63 : Nat) "MapHall$Sheet" "creaseTotal" "I") ∈ wsG := wsG_of (wsT1_in 72 rfl) rfl
theorem w_86 : (Jvm.Cond.fieldLink "MapHall" (128 : Nat) "MapHall$Sheet" "creaseTotal" "I") ∈ wsG := wsG_of (wsT1_in 73 rfl) rfl
theorem w_87 : (Jvm.Cond.fieldLink "MapHall$Sheet" (36 : Nat) "MapHall$Sheet" "worn" "I") ∈ wsG := wsG_of (wsT1_in 74 rfl) rfl
theorem w_88 : (Jvm.Cond.fieldLink "MapHall$Output" (64 : Nat) "MapHall$Sheet" "worn" "I") ∈ wsG := wsG_of (wsT1_in 75 rfl) rfl
theorem w_89 : (Jvm.Cond.fieldLink "MapHall$State" (78 : Nat) "MapHall$Sheet" "worn" "I") ∈ wsG := wsG_of (wsT1_in 76 rfl) rfl
theorem w_90 : (Jvm.Cond.fieldLink "MapHall" (117 : Nat) "MapHall$Sheet" "worn" "I") ∈ wsG := wsG_of (wsT1_in 77 rfl) rfl
theorem w_91 : (Jvm.Cond.fieldLink "MapHall$Sheet" (39 : Nat) "MapHall$Sheet" "folded" "Z") ∈ wsG := wsG_of (wsT1_in 78 rfl) rfl
theorem w_92 : (Jvm.Cond.fieldLink "MapHall$Output" (67 : Nat) "MapHall$Sheet" "folded" "Z") ∈ wsG := wsG_of (wsT1_in 79 rfl) rfl
theorem w_93 : (Jvm.Cond.fieldLink "MapHall$State" (66 : Nat) "MapHall$Sheet" "folded" "Z") ∈ wsG := wsG_of (wsT1_in 80 rfl) rfl
theorem w_94 : (Jvm.Cond.fieldLink "MapHall" (124 : Nat) "MapHall$Sheet" "folded" "Z") ∈ wsG := wsG_of (wsT1_in 81 rfl) rfl
theorem w_95 : (Jvm.Cond.fieldLink "MapHall$Sheet" (23 : Nat) "MapHall$Sheet" "cell" "I") ∈ wsG := wsG_of (wsT1_in 82 rfl) rfl
theorem w_96 : (Jvm.Cond.fieldLink "MapHall$State" (119 : Nat) "MapHall$Sheet" "cell" "I") ∈ wsG := wsG_of (wsT1_in 83 rfl) rfl
theorem w_97 : (Jvm.Cond.fieldLink "MapHall" (150 : Nat) "MapHall$Sheet" "cell" "I") ∈ wsG := wsG_of (wsT1_in 84 rfl) rfl
theorem w_98 : (Jvm.Cond.fieldLink "MapHall$Output" (41 : Nat) "MapHall$Sheet" "turns" "I") ∈ wsG := wsG_of (wsT1_in 85 rfl) rfl
theorem w_99 : (Jvm.Cond.fieldLink "MapHall$Sheet" (43 : Nat) "MapHall$Sheet" "turns" "I") ∈ wsG := wsG_of (wsT1_in 86 rfl) rfl
theorem w_100 : (Jvm.Cond.fieldLink "MapHall$State" (122 : Nat) "MapHall$Sheet" "turns" "I") ∈ wsG := wsG_of (wsT1_in 87 rfl) rfl
theorem w_101 : (Jvm.Cond.fieldLink "MapHall" (166 : Nat) "MapHall$Sheet" "turns" "I") ∈ wsG := wsG_of (wsT1_in 88 rfl) rfl
theorem w_102 : (Jvm.Cond.laysFinal "MapHall$Sheet" "MapHall$Sheet" "borders" "[I") ∈ wsG := wsG_of (wsT1_in 89 rfl) rfl
theorem w_104 : (Jvm.Cond.laysFinal "MapHall$Sheet" "MapHall$Sheet" "creases" "[C") ∈ wsG := wsG_of (wsT1_in 91 rfl) rfl
theorem w_106 : (Jvm.Cond.lays "MapHall$Sheet" "MapHall$Sheet" "type" "C") ∈ wsG := wsG_of (wsT1_in 93 rfl) rfl
theorem w_108 : (Jvm.Cond.lays "MapHall$Sheet" "MapHall$Sheet" "creaseTotal" "I") ∈ wsG := wsG_of (wsT1_in 95 rfl) rfl
theorem w_110 : (Jvm.Cond.lays "MapHall$Sheet" "MapHall$Sheet" "worn" "I") ∈ wsG := wsG_of (wsT1_in 97 rfl) rfl
theorem w_112 : (Jvm.Cond.lays "MapHall$Sheet" "MapHall$Sheet" "folded" "Z") ∈ wsG := wsG_of (wsT1_in 99 rfl) rfl
theorem w_114 : (Jvm.Cond.lays "MapHall$Sheet" "MapHall$Sheet" "cell" "I") ∈ wsG := wsG_of (wsT1_in 101 rfl) rfl
theorem w_116 : (Jvm.Cond.lays "MapHall$Sheet" "MapHall$Sheet" "turns" "I") ∈ wsG := wsG_of (wsT1_in 103 rfl) rfl
theorem w_119 : (Jvm.Cond.arrayClass Jvm.ClassFile.FieldType.int) ∈ wsG := wsG_of (wsT1_in 106 rfl) rfl
theorem w_120 : (Jvm.Cond.arrayClass Jvm.ClassFile.FieldType.char) ∈ wsG := wsG_of (wsT1_in 107 rfl) rfl
theorem w_121 : (Jvm.Cond.fieldLink "MapHall$State" (11 : Nat) "MapHall$State" "sheets" "[LMapHall$Sheet;") ∈ wsG := wsG_of (wsT1_in 108 rfl) rfl
theorem w_122 : (Jvm.Cond.fieldLink "MapHall" (370 : Nat) "MapHall$State" "sheets" "[LMapHall$Sheet;") ∈ wsG := wsG_of (wsT1_in 109 rfl) rfl
theorem w_123 : (Jvm.Cond.fieldLink "MapHall$State" (17 : Nat) "MapHall$State" "occupant" "[I") ∈ wsG := wsG_of (wsT1_in 110 rfl) rfl
theorem w_124 : (Jvm.Cond.fieldLink "MapHall$Output" (29 : Nat) "MapHall$State" "occupant" "[I") ∈ wsG := wsG_of (wsT1_in 111 rfl) rfl
theorem w_125 : (Jvm.Cond.fieldLink "MapHall" (159 : Nat) "MapHall$State" "occupant" "[I") ∈ wsG := wsG_of (wsT1_in 112 rfl) rfl
theorem w_126 : (Jvm.Cond.fieldLink "MapHall$State" (32 : Nat) "MapHall$State" "sheetTotal" "I") ∈ wsG := wsG_of (wsT1_in 113 rfl) rfl
theorem w_127 : (Jvm.Cond.fieldLink "MapHall" (96 : Nat) "MapHall$State" "sheetTotal" "I") ∈ wsG := wsG_of (wsT1_in 114 rfl) rfl
theorem w_128 : (Jvm.Cond.fieldLink "MapHall$State" (36 : Nat) "MapHall$State" "pasteLeft" "I") ∈ wsG := wsG_of (wsT1_in 115 rfl) rfl
theorem w_129 : (Jvm.Cond.fieldLink "MapHall" (176 : Nat) "MapHall$State" "pasteLeft" "I") ∈ wsG := wsG_of (wsT1_in 116 rfl) rfl
theorem w_130 : (Jvm.Cond.fieldLink "MapHall$State" (39 : Nat) "MapHall$State" "pasteSpent" "I") ∈ wsG := wsG_of (wsT1_in 117 rfl) rfl
theorem w_131 : (Jvm.Cond.fieldLink "MapHall" (261 : Nat) "MapHall$State" "pasteSpent" "I") ∈ wsG := wsG_of (wsT1_in 118 rfl) rfl
theorem w_132 : (Jvm.Cond.fieldLink "MapHall$State" (42 : Nat) "MapHall$State" "foldTotal" "I") ∈ wsG := wsG_of (wsT1_in 119 rfl) rfl
theorem w_133 : (Jvm.Cond.fieldLink "MapHall" (258 : Nat) "MapHall$State" "foldTotal" "I") ∈ wsG := wsG_of (wsT1_in 120 rfl) rfl
theorem w_134 : (Jvm.Cond.laysFinal "MapHall$State" "MapHall$State" "sheets" "[LMapHall$Sheet;") ∈ wsG := wsG_of (wsT1_in 121 rfl) rfl
theorem w_136 : (Jvm.Cond.laysFinal "MapHall$State" "MapHall$State" "occupant" "[I") ∈ wsG := wsG_of (wsT1_in 123 rfl) rfl
theorem w_138 : (Jvm.Cond.lays "MapHall$State" "MapHall$State" "sheetTotal" "I") ∈ wsG := wsG_of (wsT1_in 125 rfl) rfl
theorem w_140 : (Jvm.Cond.lays "MapHall$State" "MapHall$State" "pasteLeft" "I") ∈ wsG := wsG_of (wsT1_in 127 rfl) rfl
theorem w_142 : (Jvm.Cond.lays "MapHall$State" "MapHall$State" "pasteSpent" "I") ∈ wsG := wsG_of (wsT1_in 129 rfl) rfl
theorem w_144 : (Jvm.Cond.lays "MapHall$State" "MapHall$State" "foldTotal" "I") ∈ wsG := wsG_of (wsT1_in 131 rfl) rfl
theorem w_147 : (Jvm.Cond.classLink "MapHall" (19 : Nat) "MapHall$History") ∈ wsG := wsG_of (wsT1_in 134 rfl) rfl
theorem w_148 : (Jvm.Cond.instantiable "MapHall$History" (3 : Nat)) ∈ wsG := wsG_of (wsT1_in 135 rfl) rfl
theorem w_149 : (Jvm.Cond.methodLink "MapHall" (21 : Nat) ({ cls := "MapHall$History", name := "<init>", desc := "()V" } : Jvm.MethodName)) ∈ wsG := wsG_of (wsT1_in 136 rfl) rfl
theorem w_150 : (Jvm.Cond.instanceMethod ({ cls := "MapHall$History", name := "<init>", desc := "()V" } : Jvm.MethodName)) ∈ wsG := wsG_of (wsT1_in 137 rfl) rfl
theorem w_151 : (Jvm.Cond.code ({ cls := "MapHall$History", name := "<init>", desc := "()V" } : Jvm.MethodName) prog_5_method_1_code (2 : Nat) (Option.none : Option Jvm.ClassFile.FieldType)) ∈ wsG := wsG_of (wsT1_in 138 rfl) rfl
theorem w_152 : (Jvm.Cond.methodLink "MapHall$History" (3 : Nat) ({ cls := "java/lang/Object", name := "<init>", desc := "()V" } : Jvm.MethodName)) ∈ wsG := wsG_of (wsT1_in 139 rfl) rfl
theorem w_153 : (Jvm.Cond.classLink "MapHall$History" (11 : Nat) "MapHall$State") ∈ wsG := wsG_of (wsT1_in 140 rfl) rfl
theorem w_155 : (Jvm.Cond.methodLink "MapHall$History" (17 : Nat) ({ cls := "MapHall$State", name := "<init>", desc := "()V" } : Jvm.MethodName)) ∈ wsG := wsG_of (wsT1_in 142 rfl) rfl
theorem w_156 : (Jvm.Cond.fieldLink "MapHall$History" (13 : Nat) "MapHall$History" "slots" "[LMapHall$State;") ∈ wsG := wsG_of (wsT1_in 143 rfl) rfl
theorem w_157 : (Jvm.Cond.fieldLink "MapHall$History" (18 : Nat) "MapHall$History" "next" "I") ∈ wsG := wsG_of (wsT1_in 144 rfl) rfl
theorem w_158 : (Jvm.Cond.fieldLink "MapHall$History" (26 : Nat) "MapHall$History" "kept" "I") ∈ wsG := wsG_of (wsT1_in 145 rfl) rfl
theorem w_159 : (Jvm.Cond.fieldLink "MapHall" (333 : Nat) "MapHall$History" "kept" "I") ∈ wsG := wsG_of (wsT1_in 146 rfl) rfl
theorem w_160 : (Jvm.Cond.laysFinal "MapHall$History" "MapHall$History" "slots" "[LMapHall$State;") ∈ wsG := wsG_of (wsT1_in 147 rfl) rfl
theorem w_162 : (Jvm.Cond.lays "MapHall$History" "MapHall$History" "next" "I") ∈ wsG := wsG_of (wsT1_in 149 rfl) rfl
theorem w_164 : (Jvm.Cond.lays "MapHall$History" "MapHall$History" "kept" "I") ∈ wsG := wsG_of (wsT1_in 151 rfl) rfl
theorem w_167 : (Jvm.Cond.classLink "MapHall" (26 : Nat) "MapHall$Groups") ∈ wsG := wsG_of (wsT1_in 154 rfl) rfl
theorem w_168 : (Jvm.Cond.instantiable "MapHall$Groups" (1 : Nat)) ∈ wsG := wsG_of (wsT1_in 155 rfl) rfl
theorem w_170 : (Jvm.Cond.instanceMethod ({ cls := "MapHall$Groups", name := "<init>", desc := "()V" } : Jvm.MethodName)) ∈ wsG := wsG_of (wsT1_in 157 rfl) rfl
theorem w_171 : (Jvm.Cond.code ({ cls := "MapHall$Groups", name := "<init>", desc := "()V" } : Jvm.MethodName) prog_4_method_1_code (1 : Nat) (Option.none : Option Jvm.ClassFile.FieldType)) ∈ wsG := wsG_of (wsT1_in 158 rfl) rfl
theorem w_172 : (Jvm.Cond.methodLink "MapHall$Groups" (3 : Nat) ({ cls := "java/lang/Object", name := "<init>", desc := "()V" } : Jvm.MethodName)) ∈ wsG := wsG_of (wsT1_in 159 rfl) rfl
theorem w_173 : (Jvm.Cond.fieldLink "MapHall$Groups" (9 : Nat) "MapHall$Groups" "leaderOf" "[I") ∈ wsG := wsG_of (wsT1_in 160 rfl) rfl
theorem w_174 : (Jvm.Cond.laysFinal "MapHall$Groups" "MapHall$Groups" "leaderOf" "[I") ∈ wsG := wsG_of (wsT1_in 161 rfl) rfl
theorem w_177 : (Jvm.Cond.classLink "MapHall" (33 : Nat) "MapHall$Stacks") ∈ wsG := wsG_of (wsT1_in 164 rfl) rfl
theorem w_178 : (Jvm.Cond.instantiable "MapHall$Stacks" (1 : Nat)) ∈ wsG := wsG_of (wsT1_in 165 rfl) rfl
theorem w_180 : (Jvm.Cond.instanceMethod ({ cls := "MapHall$Stacks", name := "<init>", desc := "()V" } : Jvm.MethodName)) ∈ wsG := wsG_of (wsT1_in 167 rfl) rfl
theorem w_181 : (Jvm.Cond.code ({ cls := "MapHall$Stacks", name := "<init>", desc := "()V" } : Jvm.MethodName) prog_10_method_1_code (1 : Nat) (Option.none : Option Jvm.ClassFile.FieldType)) ∈ wsG := wsG_of (wsT1_in 168 rfl) rfl
theorem w_182 : (Jvm.Cond.methodLink "MapHall$Stacks" (3 : Nat) ({ cls := "java/lang/Object", name := "<init>", desc := "()V" } : Jvm.MethodName)) ∈ wsG := wsG_of (wsT1_in 169 rfl) rfl
theorem w_183 : (Jvm.Cond.fieldLink "MapHall$Stacks" (9 : Nat) "MapHall$Stacks" "places" "[I") ∈ wsG := wsG_of (wsT1_in 170 rfl) rfl
theorem w_184 : (Jvm.Cond.laysFinal "MapHall$Stacks" "MapHall$Stacks" "places" "[I") ∈ wsG := wsG_of (wsT1_in 171 rfl) rfl
theorem w_187 : (Jvm.Cond.classLink "MapHall" (40 : Nat) "MapHall$Script") ∈ wsG := wsG_of (wsT1_in 174 rfl) rfl
theorem w_188 : (Jvm.Cond.instantiable "MapHall$Script" (5 : Nat)) ∈ wsG := wsG_of (wsT1_in 175 rfl) rfl
theorem w_190 : (Jvm.Cond.instanceMethod ({ cls := "MapHall$Script", name := "<init>", desc := "()V" } : Jvm.MethodName)) ∈ wsG := wsG_of (wsT1_in 177 rfl) rfl
theorem w_191 : (Jvm.Cond.code ({ cls := "MapHall$Script", name := "<init>", desc := "()V" } : Jvm.MethodName) prog_8_method_1_code (1 : Nat) (Option.none : Option Jvm.ClassFile.FieldType)) ∈ wsG := wsG_of (wsT1_in 178 rfl) rfl
theorem w_192 : (Jvm.Cond.methodLink "MapHall$Script" (3 : Nat) ({ cls := "java/lang/Object", name := "<init>", desc := "()V" } : Jvm.MethodName)) ∈ wsG := wsG_of (wsT1_in 179 rfl) rfl
theorem w_193 : (Jvm.Cond.fieldLink "MapHall$Script" (9 : Nat) "MapHall$Script" "text" "[C") ∈ wsG := wsG_of (wsT1_in 180 rfl) rfl
theorem w_194 : (Jvm.Cond.fieldLink "MapHall$Script" (15 : Nat) "MapHall$Script" "startOf" "[I") ∈ wsG := wsG_of (wsT1_in 181 rfl) rfl
theorem w_195 : (Jvm.Cond.fieldLink "MapHall$Script" (19 : Nat) "MapHall$Script" "formOf" "[I") ∈ wsG := wsG_of (wsT1_in 182 rfl) rfl
theorem w_196 : (Jvm.Cond.fieldLink "MapHall" (398 : Nat) "MapHall$Script" "formOf" "[I") ∈ wsG := wsG_of (wsT1_in 183 rfl) rfl
theorem w_197 : (Jvm.Cond.fieldLink "MapHall$Script" (22 : Nat) "MapHall$Script" "length" "I") ∈ wsG := wsG_of (wsT1_in 184 rfl) rfl
theorem w_198 : (Jvm.Cond.fieldLink "MapHall" (288 : Nat) "MapHall$Script" "length" "I") ∈ wsG := wsG_of (wsT1_in 185 rfl) rfl
theorem w_199 : (Jvm.Cond.fieldLink "MapHall$Script" (26 : Nat) "MapHall$Script" "commandTotal" "I") ∈ wsG := wsG_of (wsT1_in 186 rfl) rfl
theorem w_200 : (Jvm.Cond.fieldLink "MapHall" (313 : Nat) "MapHall$Script" "commandTotal" "I") ∈ wsG := wsG_of (wsT1_in 187 rfl) rfl
theorem w_201 : (Jvm.Cond.laysFinal "MapHall$Script" "MapHall$Script" "text" "[C") ∈ wsG := wsG_of (wsT1_in 188 rfl) rfl
theorem w_203 : (Jvm.Cond.laysFinal "MapHall$Script" "MapHall$Script" "startOf" "[I") ∈ wsG := wsG_of (wsT1_in 190 rfl) rfl
theorem w_205 : (Jvm.Cond.laysFinal "MapHall$Script" "MapHall$Script" "formOf" "[I") ∈ wsG := wsG_of (wsT1_in 192 rfl) rfl
theorem w_207 : (Jvm.Cond.lays "MapHall$Script" "MapHall$Script" "length" "I") ∈ wsG := wsG_of (wsT1_in 194 rfl) rfl
theorem w_209 : (Jvm.Cond.lays "MapHall$Script" "MapHall$Script" "commandTotal" "I") ∈ wsG := wsG_of (wsT1_in 196 rfl) rfl
theorem w_212 : (Jvm.Cond.classLink "MapHall" (47 : Nat) "MapHall$Output") ∈ wsG := wsG_of (wsT1_in 199 rfl) rfl
theorem w_213 : (Jvm.Cond.instantiable "MapHall$Output" (2 : Nat)) ∈ wsG := wsG_of (wsT1_in 200 rfl) rfl
theorem w_215 : (Jvm.Cond.instanceMethod ({ cls := "MapHall$Output", name := "<init>", desc := "()V" } : Jvm.MethodName)) ∈ wsG := wsG_of (wsT1_in 202 rfl) rfl
theorem w_216 : (Jvm.Cond.code ({ cls := "MapHall$Output", name := "<init>", desc := "()V" } : Jvm.MethodName) prog_6_method_1_code (1 : Nat) (Option.none : Option Jvm.ClassFile.FieldType)) ∈ wsG := wsG_of (wsT1_in 203 rfl) rfl
theorem w_217 : (Jvm.Cond.methodLink "MapHall$Output" (3 : Nat) ({ cls := "java/lang/Object", name := "<init>", desc := "()V" } : Jvm.MethodName)) ∈ wsG := wsG_of (wsT1_in 204 rfl) rfl
theorem w_218 : (Jvm.Cond.fieldLink "MapHall$Output" (9 : Nat) "MapHall$Output" "signs" "[C") ∈ wsG := wsG_of (wsT1_in 205 rfl) rfl
theorem w_219 : (Jvm.Cond.fieldLink "MapHall" (330 : Nat) "MapHall$Output" "signs" "[C") ∈ wsG := wsG_of (wsT1_in 206 rfl) rfl
theorem w_220 : (Jvm.Cond.fieldLink "MapHall$Output" (15 : Nat) "MapHall$Output" "length" "I") ∈ wsG := wsG_of (wsT1_in 207 rfl) rfl
theorem w_221 : (Jvm.Cond.fieldLink "MapHall" (323 : Nat) "MapHall$Output" "length" "I") ∈ wsG := wsG_of (wsT1_in 208 rfl) rfl
theorem w_222 : (Jvm.Cond.laysFinal "MapHall$Output" "MapHall$Output" "signs" "[C") ∈ wsG := wsG_of (wsT1_in 209 rfl) rfl
theorem w_224 : (Jvm.Cond.lays "MapHall$Output" "MapHall$Output" "length" "I") ∈ wsG := wsG_of (wsT1_in 211 rfl) rfl
theorem w_227 : (Jvm.Cond.fieldLink "MapHall" (12 : Nat) "MapHall" "state" "LMapHall$State;") ∈ wsG := wsG_of (wsT1_in 214 rfl) rfl
theorem w_228 : (Jvm.Cond.fieldLink "MapHall" (16 : Nat) "MapHall" "saved" "LMapHall$State;") ∈ wsG := wsG_of (wsT1_in 215 rfl) rfl
theorem w_229 : (Jvm.Cond.fieldLink "MapHall" (344 : Nat) "MapHall" "hasSaved" "Z") ∈ wsG := wsG_of (wsT1_in 216 rfl) rfl
theorem w_230 : (Jvm.Cond.fieldLink "MapHall" (22 : Nat) "MapHall" "history" "LMapHall$History;") ∈ wsG := wsG_of (wsT1_in 217 rfl) rfl
theorem w_231 : (Jvm.Cond.fieldLink "MapHall" (29 : Nat) "MapHall" "tableGroups" "LMapHall$Groups;") ∈ wsG := wsG_of (wsT1_in 218 rfl) rfl
theorem w_232 : (Jvm.Cond.fieldLink "MapHall" (36 : Nat) "MapHall" "stacks" "LMapHall$Stacks;") ∈ wsG := wsG_of (wsT1_in 219 rfl) rfl
theorem w_233 : (Jvm.Cond.fieldLink "MapHall" (43 : Nat) "MapHall" "script" "LMapHall$Script;") ∈ wsG := wsG_of (wsT1_in 220 rfl) rfl
theorem w_234 : (Jvm.Cond.fieldLink "MapHall" (50 : Nat) "MapHall" "output" "LMapHall$Output;") ∈ wsG := wsG_of (wsT1_in 221 rfl) rfl
theorem w_235 : (Jvm.Cond.fieldLink "MapHall" (54 : Nat) "MapHall" "malformedAt" "I") ∈ wsG := wsG_of (wsT1_in 222 rfl) rfl
theorem w_236 : (Jvm.Cond.fieldLink "MapHall" (58 : Nat) "MapHall" "failedAt" "I") ∈ wsG := wsG_of (wsT1_in 223 rfl) rfl
theorem w_237 : (Jvm.Cond.laysFinal "MapHall" "MapHall" "state" "LMapHall$State;") ∈ wsG := wsG_of (wsT1_in 224 rfl) rfl
theorem w_239 : (Jvm.Cond.laysFinal "MapHall" "MapHall" "saved" "LMapHall$State;") ∈ wsG := wsG_of (wsT1_in 226 rfl) rfl
theorem w_241 : (Jvm.Cond.lays "MapHall" "MapHall" "hasSaved" "Z") ∈ wsG := wsG_of (wsT1_in 228 rfl) rfl
theorem w_243 : (Jvm.Cond.laysFinal "MapHall" "MapHall" "history" "LMapHall$History;") ∈ wsG := wsG_of (wsT1_in 230 rfl) rfl
theorem w_245 : (Jvm.Cond.laysFinal "MapHall" "MapHall" "tableGroups" "LMapHall$Groups;") ∈ wsG := wsG_of (wsT1_in 232 rfl) rfl
theorem w_247 : (Jvm.Cond.laysFinal "MapHall" "MapHall" "stacks" "LMapHall$Stacks;") ∈ wsG := wsG_of (wsT1_in 234 rfl) rfl
theorem w_249 : (Jvm.Cond.laysFinal "MapHall" "MapHall" "script" "LMapHall$Script;") ∈ wsG := wsG_of (wsT1_in 236 rfl) rfl
theorem w_251 : (Jvm.Cond.laysFinal "MapHall" "MapHall" "output" "LMapHall$Output;") ∈ wsG := wsG_of (wsT1_in 238 rfl) rfl
theorem w_253 : (Jvm.Cond.lays "MapHall" "MapHall" "malformedAt" "I") ∈ wsG := wsG_of (wsT2_in 0 rfl) rfl
theorem w_255 : (Jvm.Cond.lays "MapHall" "MapHall" "failedAt" "I") ∈ wsG := wsG_of (wsT2_in 2 rfl) rfl
theorem w_258 : (Jvm.Cond.methodLink "MapHallLaw" (190 : Nat) ({ cls := "MapHall", name := "sheetCount", desc := "()I" } : Jvm.MethodName)) ∈ wsG := wsG_of (wsT2_in 5 rfl) rfl
theorem w_259 : (Jvm.Cond.instanceMethod ({ cls := "MapHall", name := "sheetCount", desc := "()I" } : Jvm.MethodName)) ∈ wsG := wsG_of (wsT2_in 6 rfl) rfl
theorem w_260 : (Jvm.Cond.selects "MapHall" ({ cls := "MapHall", name := "sheetCount", desc := "()I" } : Jvm.MethodName) ({ cls := "MapHall", name := "sheetCount", desc := "()I" } : Jvm.MethodName)) ∈ wsG := wsG_of (wsT2_in 7 rfl) rfl
theorem w_261 : (Jvm.Cond.code ({ cls := "MapHall", name := "sheetCount", desc := "()I" } : Jvm.MethodName) prog_1_method_10_code (1 : Nat) (Option.some Jvm.ClassFile.FieldType.int)) ∈ wsG := wsG_of (wsT2_in 8 rfl) rfl
theorem w_262 : (Jvm.Cond.methodLink "MapHallLaw" (214 : Nat) ({ cls := "MapHall", name := "paste", desc := "()I" } : Jvm.MethodName)) ∈ wsG := wsG_of (wsT2_in 9 rfl) rfl
theorem w_263 : (Jvm.Cond.instanceMethod ({ cls := "MapHall", name := "paste", desc := "()I" } : Jvm.MethodName)) ∈ wsG := wsG_of (wsT2_in 10 rfl) rfl
theorem w_264 : (Jvm.Cond.selects "MapHall" ({ cls := "MapHall", name := "paste", desc := "()I" } : Jvm.MethodName) ({ cls := "MapHall", name := "paste", desc := "()I" } : Jvm.MethodName)) ∈ wsG := wsG_of (wsT2_in 11 rfl) rfl
theorem w_265 : (Jvm.Cond.code ({ cls := "MapHall", name := "paste", desc := "()I" } : Jvm.MethodName) prog_1_method_23_code (1 : Nat) (Option.some Jvm.ClassFile.FieldType.int)) ∈ wsG := wsG_of (wsT2_in 12 rfl) rfl
theorem w_266 : (Jvm.Cond.methodLink "MapHallLaw" (217 : Nat) ({ cls := "MapHall", name := "foldCount", desc := "()I" } : Jvm.MethodName)) ∈ wsG := wsG_of (wsT2_in 13 rfl) rfl
theorem w_267 : (Jvm.Cond.instanceMethod ({ cls := "MapHall", name := "foldCount", desc := "()I" } : Jvm.MethodName)) ∈ wsG := wsG_of (wsT2_in 14 rfl) rfl
theorem w_268 : (Jvm.Cond.selects "MapHall" ({ cls := "MapHall", name := "foldCount", desc := "()I" } : Jvm.MethodName) ({ cls := "MapHall", name := "foldCount", desc := "()I" } : Jvm.MethodName)) ∈ wsG := wsG_of (wsT2_in 15 rfl) rfl
theorem w_269 : (Jvm.Cond.code ({ cls := "MapHall", name := "foldCount", desc := "()I" } : Jvm.MethodName) prog_1_method_39_code (1 : Nat) (Option.some Jvm.ClassFile.FieldType.int)) ∈ wsG := wsG_of (wsT2_in 16 rfl) rfl
theorem w_270 : (Jvm.Cond.methodLink "MapHallLaw" (288 : Nat) ({ cls := "MapHall", name := "undoCount", desc := "()I" } : Jvm.MethodName)) ∈ wsG := wsG_of (wsT2_in 17 rfl) rfl
theorem w_271 : (Jvm.Cond.instanceMethod ({ cls := "MapHall", name := "undoCount", desc := "()I" } : Jvm.MethodName)) ∈ wsG := wsG_of (wsT2_in 18 rfl) rfl
theorem w_272 : (Jvm.Cond.selects "MapHall" ({ cls := "MapHall", name := "undoCount", desc := "()I" } : Jvm.MethodName) ({ cls := "MapHall", name := "undoCount", desc := "()I" } : Jvm.MethodName)) ∈ wsG := wsG_of (wsT2_in 19 rfl) rfl
theorem w_273 : (Jvm.Cond.code ({ cls := "MapHall", name := "undoCount", desc := "()I" } : Jvm.MethodName) prog_1_method_51_code (1 : Nat) (Option.some Jvm.ClassFile.FieldType.int)) ∈ wsG := wsG_of (wsT2_in 20 rfl) rfl
theorem w_274 : (Jvm.Cond.methodLink "MapHallLaw" (345 : Nat) ({ cls := "MapHall", name := "save", desc := "()I" } : Jvm.MethodName)) ∈ wsG := wsG_of (wsT2_in 21 rfl) rfl
theorem w_275 : (Jvm.Cond.instanceMethod ({ cls := "MapHall", name := "save", desc := "()I" } : Jvm.MethodName)) ∈ wsG := wsG_of (wsT2_in 22 rfl) rfl
theorem w_276 : (Jvm.Cond.selects "MapHall" ({ cls := "MapHall", name := "save", desc := "()I" } : Jvm.MethodName) ({ cls := "MapHall", name := "save", desc := "()I" } : Jvm.MethodName)) ∈ wsG := wsG_of (wsT2_in 23 rfl) rfl
theorem w_277 : (Jvm.Cond.code ({ cls := "MapHall", name := "save", desc := "()I" } : Jvm.MethodName) prog_1_method_53_code (1 : Nat) (Option.some Jvm.ClassFile.FieldType.int)) ∈ wsG := wsG_of (wsT2_in 24 rfl) rfl
theorem w_278 : (Jvm.Cond.methodLink "MapHall" (341 : Nat) ({ cls := "MapHall$State", name := "copyFrom", desc := "(LMapHall$State;)V" } : Jvm.MethodName)) ∈ wsG := wsG_of (wsT2_in 25 rfl) rfl
theorem w_279 : (Jvm.Cond.instanceMethod ({ cls := "MapHall$State", name := "copyFrom", desc := "(LMapHall$State;)V" } : Jvm.MethodName)) ∈ wsG := wsG_of (wsT2_in 26 rfl) rfl
theorem w_280 : (Jvm.Cond.selects "MapHall$State" ({ cls := "MapHall$State", name := "copyFrom", desc := "(LMapHall$State;)V" } : Jvm.MethodName) ({ cls := "MapHall$State", name := "copyFrom", desc := "(LMapHall$State;)V" } : Jvm.MethodName)) ∈ wsG := wsG_of (wsT2_in 27 rfl) rfl
theorem w_281 : (Jvm.Cond.code ({ cls := "MapHall$State", name := "copyFrom", desc := "(LMapHall$State;)V" } : Jvm.MethodName) prog_11_method_2_code (3 : Nat) (Option.none : Option Jvm.ClassFile.FieldType)) ∈ wsG := wsG_of (wsT2_in 28 rfl) rfl
theorem w_282 : (Jvm.Cond.methodLink "MapHall$State" (22 : Nat) ({ cls := "MapHall$Sheet", name := "copyFrom", desc := "(LMapHall$Sheet;)V" } : Jvm.MethodName)) ∈ wsG := wsG_of (wsT2_in 29 rfl) rfl
theorem w_283 : (Jvm.Cond.instanceMethod ({ cls := "MapHall$Sheet", name := "copyFrom", desc := "(LMapHall$Sheet;)V" } : Jvm.MethodName)) ∈ wsG := wsG_of (wsT2_in 30 rfl) rfl
theorem w_284 : (Jvm.Cond.selects "MapHall$Sheet" ({ cls := "MapHall$Sheet", name := "copyFrom", desc := "(LMapHall$Sheet;)V" } : Jvm.MethodName) ({ cls := "MapHall$Sheet", name := "copyFrom", desc := "(LMapHall$Sheet;)V" } : Jvm.MethodName)) ∈ wsG := wsG_of (wsT2_in 31 rfl) rfl
theorem w_285 : (Jvm.Cond.code ({ cls := "MapHall$Sheet", name := "copyFrom", desc := "(LMapHall$Sheet;)V" } : Jvm.MethodName) prog_9_method_3_code (2 : Nat) (Option.none : Option Jvm.ClassFile.FieldType)) ∈ wsG := wsG_of (wsT2_in 32 rfl) rfl
theorem w_286 : (Jvm.Cond.methodLink "MapHall$Sheet" (27 : Nat) ({ cls := "java/lang/System", name := "arraycopy", desc := "(Ljava/lang/Object;ILjava/lang/Object;II)V" } : Jvm.MethodName)) ∈ wsG := wsG_of (wsT2_in 33 rfl) rfl
theorem w_287 : (Jvm.Cond.static ({ cls := "java/lang/System", name := "arraycopy", desc := "(Ljava/lang/Object;ILjava/lang/Object;II)V" } : Jvm.MethodName)) ∈ wsG := wsG_of (wsT2_in 34 rfl) rfl
theorem w_288 : (Jvm.Cond.native ({ cls := "java/lang/System", name := "arraycopy", desc := "(Ljava/lang/Object;ILjava/lang/Object;II)V" } : Jvm.MethodName)) ∈ wsG := wsG_of (wsT2_in 35 rfl) rfl
theorem w_289 : (Jvm.Cond.methodLink "MapHall$State" (26 : Nat) ({ cls := "java/lang/System", name := "arraycopy", desc := "(Ljava/lang/Object;ILjava/lang/Object;II)V" } : Jvm.MethodName)) ∈ wsG := wsG_of (wsT2_in 36 rfl) rfl
theorem w_290 : (Jvm.Cond.methodLink "MapHallLaw" (170 : Nat) ({ cls := "MapHallLaw", name := "at", desc := "([II)I" } : Jvm.MethodName)) ∈ wsG := wsG_of (wsT2_in 37 rfl) rfl
theorem w_291 : (Jvm.Cond.static ({ cls := "MapHallLaw", name := "at", desc := "([II)I" } : Jvm.MethodName)) ∈ wsG := wsG_of (wsT2_in 38 rfl) rfl
theorem w_292 : (Jvm.Cond.code ({ cls := "MapHallLaw", name := "at", desc := "([II)I" } : Jvm.MethodName) method_2_code (2 : Nat) (Option.some Jvm.ClassFile.FieldType.int)) ∈ wsG := wsG_of (wsT2_in 39 rfl) rfl
theorem w_293 : (Jvm.Cond.methodLink "MapHallLaw" (179 : Nat) ({ cls := "MapHallLaw", name := "addSheet", desc := "(LMapHall;IIIIC)I" } : Jvm.MethodName)) ∈ wsG := wsG_of (wsT2_in 40 rfl) rfl
theorem w_294 : (Jvm.Cond.static ({ cls := "MapHallLaw", name := "addSheet", desc := "(LMapHall;IIIIC)I" } : Jvm.MethodName)) ∈ wsG := wsG_of (wsT2_in 41 rfl) rfl
theorem w_295 : (Jvm.Cond.codeWith ({ cls := "MapHallLaw", name := "addSheet", desc := "(LMapHall;IIIIC)I" } : Jvm.MethodName) method_4_code (7 : Nat) (Option.some Jvm.ClassFile.FieldType.int) [((0 : Nat), (11 : Nat), (12 : Nat), (13 : Nat)), ((0 : Nat), (11 : Nat), (18 : Nat), (15 : Nat))]) ∈ wsG := wsG_of (wsT2_in 42 rfl) rfl
theorem w_296 : (Jvm.Cond.classLink "MapHallLaw" (13 : Nat) "java/lang/IllegalArgumentException") ∈ wsG := wsG_of (wsT2_in 43 rfl) rfl
theorem w_297 : (Jvm.Cond.classLink "MapHallLaw" (15 : Nat) "java/lang/IllegalStateException") ∈ wsG := wsG_of (wsT2_in 44 rfl) rfl
theorem w_298 : (Jvm.Cond.methodLink "MapHallLaw" (7 : Nat) ({ cls := "MapHall", name := "addSheet", desc := "(IIIIC)I" } : Jvm.MethodName)) ∈ wsG := wsG_of (wsT2_in 45 rfl) rfl
theorem w_299 : (Jvm.Cond.instanceMethod ({ cls := "MapHall", name := "addSheet", desc := "(IIIIC)I" } : Jvm.MethodName)) ∈ wsG := wsG_of (wsT2_in 46 rfl) rfl
theorem w_300 : (Jvm.Cond.selects "MapHall" ({ cls := "MapHall", name := "addSheet", desc := "(IIIIC)I" } : Jvm.MethodName) ({ cls := "MapHall", name := "addSheet", desc := "(IIIIC)I" } : Jvm.MethodName)) ∈ wsG := wsG_of (wsT2_in 47 rfl) rfl
theorem w_301 : (Jvm.Cond.code ({ cls := "MapHall", name := "addSheet", desc := "(IIIIC)I" } : Jvm.MethodName) prog_1_method_2_code (6 : Nat) (Option.some Jvm.ClassFile.FieldType.int)) ∈ wsG := wsG_of (wsT2_in 48 rfl) rfl
theorem w_302 : (Jvm.Cond.methodLink "MapHall" (61 : Nat) ({ cls := "MapHall$History", name := "prepare", desc := "(LMapHall$State;)V" } : Jvm.MethodName)) ∈ wsG := wsG_of (wsT2_in 49 rfl) rfl
theorem w_303 : (Jvm.Cond.instanceMethod ({ cls := "MapHall$History", name := "prepare", desc := "(LMapHall$State;)V" } : Jvm.MethodName)) ∈ wsG := wsG_of (wsT2_in 50 rfl) rfl
theorem w_304 : (Jvm.Cond.selects "MapHall$History" ({ cls := "MapHall$History", name := "prepare", desc := "(LMapHall$State;)V" } : Jvm.MethodName) ({ cls := "MapHall$History", name := "prepare", desc := "(LMapHall$State;)V" } : Jvm.MethodName)) ∈ wsG := wsG_of (wsT2_in 51 rfl) rfl
theorem w_305 : (Jvm.Cond.code ({ cls := "MapHall$History", name := "prepare", desc := "(LMapHall$State;)V" } : Jvm.MethodName) prog_5_method_2_code (2 : Nat) (Option.none : Option Jvm.ClassFile.FieldType)) ∈ wsG := wsG_of (wsT2_in 52 rfl) rfl
theorem w_306 : (Jvm.Cond.methodLink "MapHall$History" (22 : Nat) ({ cls := "MapHall$State", name := "copyFrom", desc := "(LMapHall$State;)V" } : Jvm.MethodName)) ∈ wsG := wsG_of (wsT2_in 53 rfl) rfl
theorem w_307 : (Jvm.Cond.methodLink "MapHall" (65 : Nat) ({ cls := "MapHall$State", name := "tryAddSheet", desc := "(IIIIC)I" } : Jvm.MethodName)) ∈ wsG := wsG_of (wsT2_in 54 rfl) rfl
theorem w_308 : (Jvm.Cond.instanceMethod ({ cls := "MapHall$State", name := "tryAddSheet", desc := "(IIIIC)I" } : Jvm.MethodName)) ∈ wsG := wsG_of (wsT2_in 55 rfl) rfl
theorem w_309 : (Jvm.Cond.selects "MapHall$State" ({ cls := "MapHall$State", name := "tryAddSheet", desc := "(IIIIC)I" } : Jvm.MethodName) ({ cls := "MapHall$State", name := "tryAddSheet", desc := "(IIIIC)I" } : Jvm.MethodName)) ∈ wsG := wsG_of (wsT2_in 56 rfl) rfl
theorem w_310 : (Jvm.Cond.code ({ cls := "MapHall$State", name := "tryAddSheet", desc := "(IIIIC)I" } : Jvm.MethodName) prog_11_method_3_code (7 : Nat) (Option.some Jvm.ClassFile.FieldType.int)) ∈ wsG := wsG_of (wsT2_in 57 rfl) rfl
theorem w_312 : (Jvm.Cond.static ({ cls := "MapHall", name := "isCode", desc := "(I)Z" } : Jvm.MethodName)) ∈ wsG := wsG_of (wsT2_in 59 rfl) rfl
theorem w_313 : (Jvm.Cond.code ({ cls := "MapHall", name := "isCode", desc := "(I)Z" } : Jvm.MethodName) prog_1_method_68_code (1 : Nat) (Option.some Jvm.ClassFile.FieldType.boolean)) ∈ wsG := wsG_of (wsT2_in 60 rfl) rfl
theorem w_315 : (Jvm.Cond.static ({ cls := "MapHall", name := "isKind", desc := "(C)Z" } : Jvm.MethodName)) ∈ wsG := wsG_of (wsT2_in 62 rfl) rfl
theorem w_316 : (Jvm.Cond.code ({ cls := "MapHall", name := "isKind", desc := "(C)Z" } : Jvm.MethodName) prog_1_method_69_code (1 : Nat) (Option.some Jvm.ClassFile.FieldType.boolean)) ∈ wsG := wsG_of (wsT2_in 63 rfl) rfl
theorem w_317 : (Jvm.Cond.methodLink "MapHall$State" (53 : Nat) ({ cls := "MapHall$Sheet", name := "begin", desc := "(IIIIC)V" } : Jvm.MethodName)) ∈ wsG := wsG_of (wsT2_in 64 rfl) rfl
theorem w_318 : (Jvm.Cond.instanceMethod ({ cls := "MapHall$Sheet", name := "begin", desc := "(IIIIC)V" } : Jvm.MethodName)) ∈ wsG := wsG_of (wsT2_in 65 rfl) rfl
theorem w_319 : (Jvm.Cond.selects "MapHall$Sheet" ({ cls := "MapHall$Sheet", name := "begin", desc := "(IIIIC)V" } : Jvm.MethodName) ({ cls := "MapHall$Sheet", name := "begin", desc := "(IIIIC)V" } : Jvm.MethodName)) ∈ wsG := wsG_of (wsT2_in 66 rfl) rfl
theorem w_320 : (Jvm.Cond.code ({ cls := "MapHall$Sheet", name := "begin", desc := "(IIIIC)V" } : Jvm.MethodName) prog_9_method_2_code (6 : Nat) (Option.none : Option Jvm.ClassFile.FieldType)) ∈ wsG := wsG_of (wsT2_in 67 rfl) rfl
theorem w_321 : (Jvm.Cond.methodLink "MapHall" (69 : Nat) ({ cls := "MapHall", name := "recorded", desc := "(I)I" } : Jvm.MethodName)) ∈ wsG := wsG_of (wsT2_in 68 rfl) rfl
theorem w_323 : (Jvm.Cond.instanceMethod ({ cls := "MapHall", name := "recorded", desc := "(I)I" } : Jvm.MethodName)) ∈ wsG := wsG_of (wsT2_in 70 rfl) rfl
theorem w_324 : (Jvm.Cond.code ({ cls := "MapHall", name := "recorded", desc := "(I)I" } : Jvm.MethodName) prog_1_method_55_code (2 : Nat) (Option.some Jvm.ClassFile.FieldType.int)) ∈ wsG := wsG_of (wsT2_in 71 rfl) rfl
theorem w_325 : (Jvm.Cond.methodLink "MapHall" (352 : Nat) ({ cls := "MapHall", name := "throwRefusal", desc := "(I)V" } : Jvm.MethodName)) ∈ wsG := wsG_of (wsT2_in 72 rfl) rfl
theorem w_326 : (Jvm.Cond.static ({ cls := "MapHall", name := "throwRefusal", desc := "(I)V" } : Jvm.MethodName)) ∈ wsG := wsG_of (wsT2_in 73 rfl) rfl
theorem w_327 : (Jvm.Cond.code ({ cls := "MapHall", name := "throwRefusal", desc := "(I)V" } : Jvm.MethodName) prog_1_method_56_code (1 : Nat) (Option.none : Option Jvm.ClassFile.FieldType)) ∈ wsG := wsG_of (wsT2_in 74 rfl) rfl
theorem w_328 : (Jvm.Cond.classLink "MapHall" (131 : Nat) "java/lang/IndexOutOfBoundsException") ∈ wsG := wsG_of (wsT2_in 75 rfl) rfl
theorem w_329 : (Jvm.Cond.instantiable "java/lang/IndexOutOfBoundsException" (6 : Nat)) ∈ wsG := wsG_of (wsT2_in 76 rfl) rfl
theorem w_337 : (Jvm.Cond.selects "java/lang/IndexOutOfBoundsException" ({ cls := "java/lang/Throwable", name := "fillInStackTrace", desc := "(I)Ljava/lang/Throwable;" } : Jvm.MethodName) ({ cls := "java/lang/Throwable", name := "fillInStackTrace", desc := "(I)Ljava/lang/Throwable;" } : Jvm.MethodName)) ∈ wsG := wsG_of (wsT2_in 84 rfl) rfl
theorem w_338 : (Jvm.Cond.selects "java/lang/IndexOutOfBoundsException" ({ cls := "java/lang/Throwable", name := "fillInStackTrace", desc := "()Ljava/lang/Throwable;" } : Jvm.MethodName) ({ cls := "java/lang/Throwable", name := "fillInStackTrace", desc := "()Ljava/lang/Throwable;" } : Jvm.MethodName)) ∈ wsG := wsG_of (wsT2_in 85 rfl) rfl
theorem w_339 : (Jvm.Cond.lays "java/lang/IndexOutOfBoundsException" "java/lang/Throwable" "cause" "Ljava/lang/Throwable;") ∈ wsG := wsG_of (wsT2_in 86 rfl) rfl
theorem w_340 : (Jvm.Cond.lays "java/lang/Throwable" "java/lang/Throwable" "cause" "Ljava/lang/Throwable;") ∈ wsG := wsG_of (wsT2_in 87 rfl) rfl
theorem w_341 : (Jvm.Cond.lays "java/lang/IndexOutOfBoundsException" "java/lang/Throwable" "stackTrace" "[Ljava/lang/StackTraceElement;") ∈ wsG := wsG_of (wsT2_in 88 rfl) rfl
theorem w_342 : (Jvm.Cond.lays "java/lang/Throwable" "java/lang/Throwable" "stackTrace" "[Ljava/lang/StackTraceElement;") ∈ wsG := wsG_of (wsT2_in 89 rfl) rfl
theorem w_343 : (Jvm.Cond.lays "java/lang/IndexOutOfBoundsException" "java/lang/Throwable" "suppressedExceptions" "Ljava/util/List;") ∈ wsG := wsG_of (wsT2_in 90 rfl) rfl
theorem w_344 : (Jvm.Cond.lays "java/lang/Throwable" "java/lang/Throwable" "suppressedExceptions" "Ljava/util/List;") ∈ wsG := wsG_of (wsT2_in 91 rfl) rfl
theorem w_345 : (Jvm.Cond.lays "java/lang/IndexOutOfBoundsException" "java/lang/Throwable" "detailMessage" "Ljava/lang/String;") ∈ wsG := wsG_of (wsT2_in 92 rfl) rfl
theorem w_346 : (Jvm.Cond.lays "java/lang/Throwable" "java/lang/Throwable" "detailMessage" "Ljava/lang/String;") ∈ wsG := wsG_of (wsT2_in 93 rfl) rfl
theorem w_347 : (Jvm.Cond.lays "java/lang/IndexOutOfBoundsException" "java/lang/Throwable" "backtrace" "Ljava/lang/Object;") ∈ wsG := wsG_of (wsT2_in 94 rfl) rfl
theorem w_348 : (Jvm.Cond.lays "java/lang/Throwable" "java/lang/Throwable" "backtrace" "Ljava/lang/Object;") ∈ wsG := wsG_of (wsT2_in 95 rfl) rfl
theorem w_349 : (Jvm.Cond.fieldLink "java/lang/Throwable" (198 : Nat) "java/lang/Throwable" "backtrace" "Ljava/lang/Object;") ∈ wsG := wsG_of (wsT2_in 96 rfl) rfl
theorem w_351 : (Jvm.Cond.instanceMethod ({ cls := "java/lang/Throwable", name := "<init>", desc := "()V" } : Jvm.MethodName)) ∈ wsG := wsG_of (wsT2_in 98 rfl) rfl
theorem w_352 : (Jvm.Cond.code ({ cls := "java/lang/Throwable", name := "<init>", desc := "()V" } : Jvm.MethodName) prog_38_method_1_code (1 : Nat) (Option.none : Option Jvm.ClassFile.FieldType)) ∈ wsG := wsG_of (wsT2_in 99 rfl) rfl
theorem w_353 : (Jvm.Cond.methodLink "java/lang/Throwable" (1 : Nat) ({ cls := "java/lang/Object", name := "<init>", desc := "()V" } : Jvm.MethodName)) ∈ wsG := wsG_of (wsT2_in 100 rfl) rfl
theorem w_354 : (Jvm.Cond.fieldLink "java/lang/Throwable" (13 : Nat) "java/lang/Throwable" "UNASSIGNED_STACK" "[Ljava/lang/StackTraceElement;") ∈ wsG := wsG_of (wsT2_in 101 rfl) rfl
theorem w_356 : (Jvm.Cond.fieldLink "java/lang/Throwable" (20 : Nat) "java/lang/Throwable" "SUPPRESSED_SENTINEL" "Ljava/util/List;") ∈ wsG := wsG_of (wsT2_in 103 rfl) rfl
theorem w_358 : (Jvm.Cond.methodLink "java/lang/Throwable" (27 : Nat) ({ cls := "java/lang/Throwable", name := "fillInStackTrace", desc := "()Ljava/lang/Throwable;" } : Jvm.MethodName)) ∈ wsG := wsG_of (wsT2_in 105 rfl) rfl
theorem w_359 : (Jvm.Cond.instanceMethod ({ cls := "java/lang/Throwable", name := "fillInStackTrace", desc := "()Ljava/lang/Throwable;" } : Jvm.MethodName)) ∈ wsG := wsG_of (wsT2_in 106 rfl) rfl
theorem w_361 : (Jvm.Cond.selects "java/lang/ArithmeticException" ({ cls := "java/lang/Throwable", name := "fillInStackTrace", desc := "()Ljava/lang/Throwable;" } : Jvm.MethodName) ({ cls := "java/lang/Throwable", name := "fillInStackTrace", desc := "()Ljava/lang/Throwable;" } : Jvm.MethodName)) ∈ wsG := wsG_of (wsT2_in 108 rfl) rfl
theorem w_362 : (Jvm.Cond.selects "java/lang/ArrayIndexOutOfBoundsException" ({ cls := "java/lang/Throwable", name := "fillInStackTrace", desc := "()Ljava/lang/Throwable;" } : Jvm.MethodName) ({ cls := "java/lang/Throwable", name := "fillInStackTrace", desc := "()Ljava/lang/Throwable;" } : Jvm.MethodName)) ∈ wsG := wsG_of (wsT2_in 109 rfl) rfl
theorem w_363 : (Jvm.Cond.selects "java/lang/IllegalArgumentException" ({ cls := "java/lang/Throwable", name := "fillInStackTrace", desc := "()Ljava/lang/Throwable;" } : Jvm.MethodName) ({ cls := "java/lang/Throwable", name := "fillInStackTrace", desc := "()Ljava/lang/Throwable;" } : Jvm.MethodName)) ∈ wsG := wsG_of (wsT2_in 110 rfl) rfl
theorem w_364 : (Jvm.Cond.selects "java/lang/IllegalStateException" ({ cls := "java/lang/Throwable", name := "fillInStackTrace", desc := "()Ljava/lang/Throwable;" } : Jvm.MethodName) ({ cls := "java/lang/Throwable", name := "fillInStackTrace", desc := "()Ljava/lang/Throwable;" } : Jvm.MethodName)) ∈ wsG := wsG_of (wsT2_in 111 rfl) rfl
theorem w_365 : (Jvm.Cond.selects "java/lang/UnsupportedOperationException" ({ cls := "java/lang/Throwable", name := "fillInStackTrace", desc := "()Ljava/lang/Throwable;" } : Jvm.MethodName) ({ cls := "java/lang/Throwable", name := "fillInStackTrace", desc := "()Ljava/lang/Throwable;" } : Jvm.MethodName)) ∈ wsG := wsG_of (wsT2_in 112 rfl) rfl
theorem w_366 : (Jvm.Cond.selects "java/util/NoSuchElementException" ({ cls := "java/lang/Throwable", name := "fillInStackTrace", desc := "()Ljava/lang/Throwable;" } : Jvm.MethodName) ({ cls := "java/lang/Throwable", name := "fillInStackTrace", desc := "()Ljava/lang/Throwable;" } : Jvm.MethodName)) ∈ wsG := wsG_of (wsT2_in 113 rfl) rfl
theorem w_368 : (Jvm.Cond.methodLink "java/lang/Throwable" (202 : Nat) ({ cls := "java/lang/Throwable", name := "fillInStackTrace", desc := "(I)Ljava/lang/Throwable;" } : Jvm.MethodName)) ∈ wsG := wsG_of (wsT2_in 115 rfl) rfl
theorem w_370 : (Jvm.Cond.instanceMethod ({ cls := "java/lang/Throwable", name := "fillInStackTrace", desc := "(I)Ljava/lang/Throwable;" } : Jvm.MethodName)) ∈ wsG := wsG_of (wsT2_in 117 rfl) rfl
theorem w_371 : (Jvm.Cond.instantiable "java/lang/Throwable" (6 : Nat)) ∈ wsG := wsG_of (wsT2_in 118 rfl) rfl
theorem w_372 : (Jvm.Cond.native ({ cls := "java/lang/Throwable", name := "fillInStackTrace", desc := "(I)Ljava/lang/Throwable;" } : Jvm.MethodName)) ∈ wsG := wsG_of (wsT2_in 119 rfl) rfl
theorem w_374 : (Jvm.Cond.methodLink "MapHall" (135 : Nat) ({ cls := "java/lang/IndexOutOfBoundsException", name := "<init>", desc := "(Ljava/lang/String;)V" } : Jvm.MethodName)) ∈ wsG := wsG_of (wsT2_in 121 rfl) rfl
theorem w_375 : (Jvm.Cond.instanceMethod ({ cls := "java/lang/IndexOutOfBoundsException", name := "<init>", desc := "(Ljava/lang/String;)V" } : Jvm.MethodName)) ∈ wsG := wsG_of (wsT2_in 122 rfl) rfl
theorem w_376 : (Jvm.Cond.code ({ cls := "java/lang/IndexOutOfBoundsException", name := "<init>", desc := "(Ljava/lang/String;)V" } : Jvm.MethodName) prog_28_method_2_code (2 : Nat) (Option.none : Option Jvm.ClassFile.FieldType)) ∈ wsG := wsG_of (wsT2_in 123 rfl) rfl
theorem w_377 : (Jvm.Cond.methodLink "java/lang/IndexOutOfBoundsException" (7 : Nat) ({ cls := "java/lang/RuntimeException", name := "<init>", desc := "(Ljava/lang/String;)V" } : Jvm.MethodName)) ∈ wsG := wsG_of (wsT2_in 124 rfl) rfl
theorem w_378 : (Jvm.Cond.instanceMethod ({ cls := "java/lang/RuntimeException", name := "<init>", desc := "(Ljava/lang/String;)V" } : Jvm.MethodName)) ∈ wsG := wsG_of (wsT2_in 125 rfl) rfl
theorem w_379 : (Jvm.Cond.code ({ cls := "java/lang/RuntimeException", name := "<init>", desc := "(Ljava/lang/String;)V" } : Jvm.MethodName) prog_32_method_2_code (2 : Nat) (Option.none : Option Jvm.ClassFile.FieldType)) ∈ wsG := wsG_of (wsT2_in 126 rfl) rfl
theorem w_380 : (Jvm.Cond.methodLink "java/lang/RuntimeException" (7 : Nat) ({ cls := "java/lang/Exception", name := "<init>", desc := "(Ljava/lang/String;)V" } : Jvm.MethodName)) ∈ wsG := wsG_of (wsT2_in 127 rfl) rfl
theorem w_381 : (Jvm.Cond.instanceMethod ({ cls := "java/lang/Exception", name := "<init>", desc := "(Ljava/lang/String;)V" } : Jvm.MethodName)) ∈ wsG := wsG_of (wsT2_in 128 rfl) rfl
theorem w_382 : (Jvm.Cond.code ({ cls := "java/lang/Exception", name := "<init>", desc := "(Ljava/lang/String;)V" } : Jvm.MethodName) prog_24_method_2_code (2 : Nat) (Option.none : Option Jvm.ClassFile.FieldType)) ∈ wsG := wsG_of (wsT2_in 129 rfl) rfl
theorem w_383 : (Jvm.Cond.methodLink "java/lang/Exception" (7 : Nat) ({ cls := "java/lang/Throwable", name := "<init>", desc := "(Ljava/lang/String;)V" } : Jvm.MethodName)) ∈ wsG := wsG_of (wsT2_in 130 rfl) rfl
theorem w_384 : (Jvm.Cond.instanceMethod ({ cls := "java/lang/Throwable", name := "<init>", desc := "(Ljava/lang/String;)V" } : Jvm.MethodName)) ∈ wsG := wsG_of (wsT2_in 131 rfl) rfl
theorem w_385 : (Jvm.Cond.code ({ cls := "java/lang/Throwable", name := "<init>", desc := "(Ljava/lang/String;)V" } : Jvm.MethodName) prog_38_method_2_code (2 : Nat) (Option.none : Option Jvm.ClassFile.FieldType)) ∈ wsG := wsG_of (wsT2_in 132 rfl) rfl
theorem w_386 : (Jvm.Cond.fieldLink "java/lang/Throwable" (198 : Nat) "java/lang/Throwable" "backtrace" "Ljava/lang/Object;") ∈ wsG := wsG_of (wsT2_in 133 rfl) rfl
theorem w_387 : (Jvm.Cond.fieldLink "java/lang/Throwable" (31 : Nat) "java/lang/Throwable" "detailMessage" "Ljava/lang/String;") ∈ wsG := wsG_of (wsT2_in 134 rfl) rfl
theorem w_388 : (Jvm.Cond.fieldLink "java/lang/Throwable" (7 : Nat) "java/lang/Throwable" "cause" "Ljava/lang/Throwable;") ∈ wsG := wsG_of (wsT2_in 135 rfl) rfl
theorem w_389 : (Jvm.Cond.fieldLink "java/lang/Throwable" (17 : Nat) "java/lang/Throwable" "stackTrace" "[Ljava/lang/StackTraceElement;") ∈ wsG := wsG_of (wsT2_in 136 rfl) rfl
theorem w_390 : (Jvm.Cond.fieldLink "java/lang/Throwable" (24 : Nat) "java/lang/Throwable" "suppressedExceptions" "Ljava/util/List;") ∈ wsG := wsG_of (wsT2_in 137 rfl) rfl
theorem w_395 : (Jvm.Cond.lays "java/lang/IndexOutOfBoundsException" "java/lang/Throwable" "depth" "I") ∈ wsG := wsG_of (wsT2_in 142 rfl) rfl
theorem w_399 : (Jvm.Cond.arrayClass Jvm.ClassFile.FieldType.byte) ∈ wsG := wsG_of (wsT2_in 146 rfl) rfl
theorem w_400 : (Jvm.Cond.classLink "MapHall" (183 : Nat) "java/lang/IllegalArgumentException") ∈ wsG := wsG_of (wsT2_in 147 rfl) rfl
theorem w_401 : (Jvm.Cond.instantiable "java/lang/IllegalArgumentException" (6 : Nat)) ∈ wsG := wsG_of (wsT2_in 148 rfl) rfl
theorem w_403 : (Jvm.Cond.selects "java/lang/IllegalArgumentException" ({ cls := "java/lang/Throwable", name := "fillInStackTrace", desc := "(I)Ljava/lang/Throwable;" } : Jvm.MethodName) ({ cls := "java/lang/Throwable", name := "fillInStackTrace", desc := "(I)Ljava/lang/Throwable;" } : Jvm.MethodName)) ∈ wsG := wsG_of (wsT2_in 150 rfl) rfl
theorem w_404 : (Jvm.Cond.lays "java/lang/IllegalArgumentException" "java/lang/Throwable" "cause" "Ljava/lang/Throwable;") ∈ wsG := wsG_of (wsT2_in 151 rfl) rfl
theorem w_405 : (Jvm.Cond.lays "java/lang/IllegalArgumentException" "java/lang/Throwable" "stackTrace" "[Ljava/lang/StackTraceElement;") ∈ wsG := wsG_of (wsT2_in 152 rfl) rfl
theorem w_406 : (Jvm.Cond.lays "java/lang/IllegalArgumentException" "java/lang/Throwable" "suppressedExceptions" "Ljava/util/List;") ∈ wsG := wsG_of (wsT2_in 153 rfl) rfl
theorem w_407 : (Jvm.Cond.lays "java/lang/IllegalArgumentException" "java/lang/Throwable" "detailMessage" "Ljava/lang/String;") ∈ wsG := wsG_of (wsT2_in 154 rfl) rfl
theorem w_408 : (Jvm.Cond.lays "java/lang/IllegalArgumentException" "java/lang/Throwable" "backtrace" "Ljava/lang/Object;") ∈ wsG := wsG_of (wsT2_in 155 rfl) rfl
theorem w_410 : (Jvm.Cond.methodLink "MapHall" (187 : Nat) ({ cls := "java/lang/IllegalArgumentException", name := "<init>", desc := "(Ljava/lang/String;)V" } : Jvm.MethodName)) ∈ wsG := wsG_of (wsT2_in 157 rfl) rfl
theorem w_411 : (Jvm.Cond.instanceMethod ({ cls := "java/lang/IllegalArgumentException", name := "<init>", desc := "(Ljava/lang/String;)V" } : Jvm.MethodName)) ∈ wsG := wsG_of (wsT2_in 158 rfl) rfl
theorem w_412 : (Jvm.Cond.code ({ cls := "java/lang/IllegalArgumentException", name := "<init>", desc := "(Ljava/lang/String;)V" } : Jvm.MethodName) prog_26_method_2_code (2 : Nat) (Option.none : Option Jvm.ClassFile.FieldType)) ∈ wsG := wsG_of (wsT2_in 159 rfl) rfl
theorem w_413 : (Jvm.Cond.methodLink "java/lang/IllegalArgumentException" (7 : Nat) ({ cls := "java/lang/RuntimeException", name := "<init>", desc := "(Ljava/lang/String;)V" } : Jvm.MethodName)) ∈ wsG := wsG_of (wsT2_in 160 rfl) rfl
theorem w_414 : (Jvm.Cond.lays "java/lang/IllegalArgumentException" "java/lang/Throwable" "depth" "I") ∈ wsG := wsG_of (wsT2_in 161 rfl) rfl
theorem w_416 : (Jvm.Cond.classLink "MapHall" (191 : Nat) "java/lang/IllegalStateException") ∈ wsG := wsG_of (wsT2_in 163 rfl) rfl
theorem w_417 : (Jvm.Cond.instantiable "java/lang/IllegalStateException" (6 : Nat)) ∈ wsG := wsG_of (wsT2_in 164 rfl) rfl
theorem w_419 : (Jvm.Cond.selects "java/lang/IllegalStateException" ({ cls := "java/lang/Throwable", name := "fillInStackTrace", desc := "(I)Ljava/lang/Throwable;" } : Jvm.MethodName) ({ cls := "java/lang/Throwable", name := "fillInStackTrace", desc := "(I)Ljava/lang/Throwable;" } : Jvm.MethodName)) ∈ wsG := wsG_of (wsT2_in 166 rfl) rfl
theorem w_420 : (Jvm.Cond.lays "java/lang/IllegalStateException" "java/lang/Throwable" "cause" "Ljava/lang/Throwable;") ∈ wsG := wsG_of (wsT2_in 167 rfl) rfl
theorem w_421 : (Jvm.Cond.lays "java/lang/IllegalStateException" "java/lang/Throwable" "stackTrace" "[Ljava/lang/StackTraceElement;") ∈ wsG := wsG_of (wsT2_in 168 rfl) rfl
theorem w_422 : (Jvm.Cond.lays "java/lang/IllegalStateException" "java/lang/Throwable" "suppressedExceptions" "Ljava/util/List;") ∈ wsG := wsG_of (wsT2_in 169 rfl) rfl
theorem w_423 : (Jvm.Cond.lays "java/lang/IllegalStateException" "java/lang/Throwable" "detailMessage" "Ljava/lang/String;") ∈ wsG := wsG_of (wsT2_in 170 rfl) rfl
theorem w_424 : (Jvm.Cond.lays "java/lang/IllegalStateException" "java/lang/Throwable" "backtrace" "Ljava/lang/Object;") ∈ wsG := wsG_of (wsT2_in 171 rfl) rfl
theorem w_426 : (Jvm.Cond.methodLink "MapHall" (195 : Nat) ({ cls := "java/lang/IllegalStateException", name := "<init>", desc := "(Ljava/lang/String;)V" } : Jvm.MethodName)) ∈ wsG := wsG_of (wsT2_in 173 rfl) rfl
theorem w_427 : (Jvm.Cond.instanceMethod ({ cls := "java/lang/IllegalStateException", name := "<init>", desc := "(Ljava/lang/String;)V" } : Jvm.MethodName)) ∈ wsG := wsG_of (wsT2_in 174 rfl) rfl
theorem w_428 : (Jvm.Cond.code ({ cls := "java/lang/IllegalStateException", name := "<init>", desc := "(Ljava/lang/String;)V" } : Jvm.MethodName) prog_27_method_2_code (2 : Nat) (Option.none : Option Jvm.ClassFile.FieldType)) ∈ wsG := wsG_of (wsT2_in 175 rfl) rfl
theorem w_429 : (Jvm.Cond.methodLink "java/lang/IllegalStateException" (7 : Nat) ({ cls := "java/lang/RuntimeException", name := "<init>", desc := "(Ljava/lang/String;)V" } : Jvm.MethodName)) ∈ wsG := wsG_of (wsT2_in 176 rfl) rfl
theorem w_430 : (Jvm.Cond.lays "java/lang/IllegalStateException" "java/lang/Throwable" "depth" "I") ∈ wsG := wsG_of (wsT2_in 177 rfl) rfl
theorem w_432 : (Jvm.Cond.classLink "MapHall" (305 : Nat) "java/lang/UnsupportedOperationException") ∈ wsG := wsG_of (wsT2_in 179 rfl) rfl
theorem w_433 : (Jvm.Cond.instantiable "java/lang/UnsupportedOperationException" (6 : Nat)) ∈ wsG := wsG_of (wsT2_in 180 rfl) rfl
theorem w_435 : (Jvm.Cond.selects "java/lang/UnsupportedOperationException" ({ cls := "java/lang/Throwable", name := "fillInStackTrace", desc := "(I)Ljava/lang/Throwable;" } : Jvm.MethodName) ({ cls := "java/lang/Throwable", name := "fillInStackTrace", desc := "(I)Ljava/lang/Throwable;" } : Jvm.MethodName)) ∈ wsG := wsG_of (wsT2_in 182 rfl) rfl
theorem w_436 : (Jvm.Cond.lays "java/lang/UnsupportedOperationException" "java/lang/Throwable" "cause" "Ljava/lang/Throwable;") ∈ wsG := wsG_of (wsT2_in 183 rfl) rfl
theorem w_437 : (Jvm.Cond.lays "java/lang/UnsupportedOperationException" "java/lang/Throwable" "stackTrace" "[Ljava/lang/StackTraceElement;") ∈ wsG := wsG_of (wsT2_in 184 rfl) rfl
theorem w_438 : (Jvm.Cond.lays "java/lang/UnsupportedOperationException" "java/lang/Throwable" "suppressedExceptions" "Ljava/util/List;") ∈ wsG := wsG_of (wsT2_in 185 rfl) rfl
theorem w_439 : (Jvm.Cond.lays "java/lang/UnsupportedOperationException" "java/lang/Throwable" "detailMessage" "Ljava/lang/String;") ∈ wsG := wsG_of (wsT2_in 186 rfl) rfl
theorem w_440 : (Jvm.Cond.lays "java/lang/UnsupportedOperationException" "java/lang/Throwable" "backtrace" "Ljava/lang/Object;") ∈ wsG := wsG_of (wsT2_in 187 rfl) rfl
theorem w_442 : (Jvm.Cond.methodLink "MapHall" (309 : Nat) ({ cls := "java/lang/UnsupportedOperationException", name := "<init>", desc := "(Ljava/lang/String;)V" } : Jvm.MethodName)) ∈ wsG := wsG_of (wsT2_in 189 rfl) rfl
theorem w_443 : (Jvm.Cond.instanceMethod ({ cls := "java/lang/UnsupportedOperationException", name := "<init>", desc := "(Ljava/lang/String;)V" } : Jvm.MethodName)) ∈ wsG := wsG_of (wsT2_in 190 rfl) rfl
theorem w_444 : (Jvm.Cond.code ({ cls := "java/lang/UnsupportedOperationException", name := "<init>", desc := "(Ljava/lang/String;)V" } : Jvm.MethodName) prog_39_method_2_code (2 : Nat) (Option.none : Option Jvm.ClassFile.FieldType)) ∈ wsG := wsG_of (wsT2_in 191 rfl) rfl
theorem w_445 : (Jvm.Cond.methodLink "java/lang/UnsupportedOperationException" (7 : Nat) ({ cls := "java/lang/RuntimeException", name := "<init>", desc := "(Ljava/lang/String;)V" } : Jvm.MethodName)) ∈ wsG := wsG_of (wsT2_in 192 rfl) rfl
theorem w_446 : (Jvm.Cond.lays "java/lang/UnsupportedOperationException" "java/lang/Throwable" "depth" "I") ∈ wsG := wsG_of (wsT2_in 193 rfl) rfl
theorem w_448 : (Jvm.Cond.classLink "MapHall" (145 : Nat) "java/util/NoSuchElementException") ∈ wsG := wsG_of (wsT2_in 195 rfl) rfl
theorem w_449 : (Jvm.Cond.instantiable "java/util/NoSuchElementException" (6 : Nat)) ∈ wsG := wsG_of (wsT2_in 196 rfl) rfl
theorem w_451 : (Jvm.Cond.selects "java/util/NoSuchElementException" ({ cls := "java/lang/Throwable", name := "fillInStackTrace", desc := "(I)Ljava/lang/Throwable;" } : Jvm.MethodName) ({ cls := "java/lang/Throwable", name := "fillInStackTrace", desc := "(I)Ljava/lang/Throwable;" } : Jvm.MethodName)) ∈ wsG := wsG_of (wsT2_in 198 rfl) rfl
theorem w_452 : (Jvm.Cond.lays "java/util/NoSuchElementException" "java/lang/Throwable" "cause" "Ljava/lang/Throwable;") ∈ wsG := wsG_of (wsT2_in 199 rfl) rfl
theorem w_453 : (Jvm.Cond.lays "java/util/NoSuchElementException" "java/lang/Throwable" "stackTrace" "[Ljava/lang/StackTraceElement;") ∈ wsG := wsG_of (wsT2_in 200 rfl) rfl
theorem w_454 : (Jvm.Cond.lays "java/util/NoSuchElementException" "java/lang/Throwable" "suppressedExceptions" "Ljava/util/List;") ∈ wsG := wsG_of (wsT2_in 201 rfl) rfl
theorem w_455 : (Jvm.Cond.lays "java/util/NoSuchElementException" "java/lang/Throwable" "detailMessage" "Ljava/lang/String;") ∈ wsG := wsG_of (wsT2_in 202 rfl) rfl
theorem w_456 : (Jvm.Cond.lays "java/util/NoSuchElementException" "java/lang/Throwable" "backtrace" "Ljava/lang/Object;") ∈ wsG := wsG_of (wsT2_in 203 rfl) rfl
theorem w_458 : (Jvm.Cond.methodLink "MapHall" (149 : Nat) ({ cls := "java/util/NoSuchElementException", name := "<init>", desc := "(Ljava/lang/String;)V" } : Jvm.MethodName)) ∈ wsG := wsG_of (wsT2_in 205 rfl) rfl
theorem w_459 : (Jvm.Cond.instanceMethod ({ cls := "java/util/NoSuchElementException", name := "<init>", desc := "(Ljava/lang/String;)V" } : Jvm.MethodName)) ∈ wsG := wsG_of (wsT2_in 206 rfl) rfl
theorem w_460 : (Jvm.Cond.code ({ cls := "java/util/NoSuchElementException", name := "<init>", desc := "(Ljava/lang/String;)V" } : Jvm.MethodName) prog_43_method_4_code (2 : Nat) (Option.none : Option Jvm.ClassFile.FieldType)) ∈ wsG := wsG_of (wsT2_in 207 rfl) rfl
theorem w_461 : (Jvm.Cond.methodLink "java/util/NoSuchElementException" (13 : Nat) ({ cls := "java/lang/RuntimeException", name := "<init>", desc := "(Ljava/lang/String;)V" } : Jvm.MethodName)) ∈ wsG := wsG_of (wsT2_in 208 rfl) rfl
theorem w_462 : (Jvm.Cond.lays "java/util/NoSuchElementException" "java/lang/Throwable" "depth" "I") ∈ wsG := wsG_of (wsT2_in 209 rfl) rfl
theorem w_464 : (Jvm.Cond.methodLink "MapHall" (310 : Nat) ({ cls := "MapHall$History", name := "keepPrepared", desc := "()V" } : Jvm.MethodName)) ∈ wsG := wsG_of (wsT2_in 211 rfl) rfl
theorem w_465 : (Jvm.Cond.instanceMethod ({ cls := "MapHall$History", name := "keepPrepared", desc := "()V" } : Jvm.MethodName)) ∈ wsG := wsG_of (wsT2_in 212 rfl) rfl
theorem w_466 : (Jvm.Cond.selects "MapHall$History" ({ cls := "MapHall$History", name := "keepPrepared", desc := "()V" } : Jvm.MethodName) ({ cls := "MapHall$History", name := "keepPrepared", desc := "()V" } : Jvm.MethodName)) ∈ wsG := wsG_of (wsT2_in 213 rfl) rfl
theorem w_467 : (Jvm.Cond.code ({ cls := "MapHall$History", name := "keepPrepared", desc := "()V" } : Jvm.MethodName) prog_5_method_3_code (1 : Nat) (Option.none : Option Jvm.ClassFile.FieldType)) ∈ wsG := wsG_of (wsT2_in 214 rfl) rfl
theorem w_468 : (Jvm.Cond.methodLink "MapHall$History" (29 : Nat) ({ cls := "java/lang/Math", name := "min", desc := "(II)I" } : Jvm.MethodName)) ∈ wsG := wsG_of (wsT2_in 215 rfl) rfl
theorem w_469 : (Jvm.Cond.static ({ cls := "java/lang/Math", name := "min", desc := "(II)I" } : Jvm.MethodName)) ∈ wsG := wsG_of (wsT2_in 216 rfl) rfl
theorem w_470 : (Jvm.Cond.code ({ cls := "java/lang/Math", name := "min", desc := "(II)I" } : Jvm.MethodName) prog_30_method_69_code (2 : Nat) (Option.some Jvm.ClassFile.FieldType.int)) ∈ wsG := wsG_of (wsT2_in 217 rfl) rfl
theorem w_471 : (Jvm.Cond.methodLink "MapHallLaw" (182 : Nat) ({ cls := "MapHallLaw", name := "addCrease", desc := "(LMapHall;IC)I" } : Jvm.MethodName)) ∈ wsG := wsG_of (wsT2_in 218 rfl) rfl
theorem w_472 : (Jvm.Cond.static ({ cls := "MapHallLaw", name := "addCrease", desc := "(LMapHall;IC)I" } : Jvm.MethodName)) ∈ wsG := wsG_of (wsT2_in 219 rfl) rfl
theorem w_473 : (Jvm.Cond.codeWith ({ cls := "MapHallLaw", name := "addCrease", desc := "(LMapHall;IC)I" } : Jvm.MethodName) method_5_code (4 : Nat) (Option.some Jvm.ClassFile.FieldType.int) [((0 : Nat), (6 : Nat), (7 : Nat), (21 : Nat)), ((0 : Nat), (6 : Nat), (12 : Nat), (13 : Nat)), ((0 : Nat), (6 : Nat), (17 : Nat), (15 : Nat))]) ∈ wsG := wsG_of (wsT2_in 220 rfl) rfl
theorem w_474 : (Jvm.Cond.classLink "MapHallLaw" (21 : Nat) "java/lang/IndexOutOfBoundsException") ∈ wsG := wsG_of (wsT2_in 221 rfl) rfl
theorem w_475 : (Jvm.Cond.instantiable "java/lang/ArrayIndexOutOfBoundsException" (6 : Nat)) ∈ wsG := wsG_of (wsT2_in 222 rfl) rfl
theorem w_476 : (Jvm.Cond.instanceMethod ({ cls := "java/lang/ArrayIndexOutOfBoundsException", name := "<init>", desc := "(Ljava/lang/String;)V" } : Jvm.MethodName)) ∈ wsG := wsG_of (wsT2_in 223 rfl) rfl
theorem w_477 : (Jvm.Cond.code ({ cls := "java/lang/ArrayIndexOutOfBoundsException", name := "<init>", desc := "(Ljava/lang/String;)V" } : Jvm.MethodName) prog_18_method_2_code (2 : Nat) (Option.none : Option Jvm.ClassFile.FieldType)) ∈ wsG := wsG_of (wsT2_in 224 rfl) rfl
theorem w_478 : (Jvm.Cond.methodLink "java/lang/ArrayIndexOutOfBoundsException" (7 : Nat) ({ cls := "java/lang/IndexOutOfBoundsException", name := "<init>", desc := "(Ljava/lang/String;)V" } : Jvm.MethodName)) ∈ wsG := wsG_of (wsT2_in 225 rfl) rfl
theorem w_479 : (Jvm.Cond.lays "java/lang/ArrayIndexOutOfBoundsException" "java/lang/Throwable" "backtrace" "Ljava/lang/Object;") ∈ wsG := wsG_of (wsT2_in 226 rfl) rfl
theorem w_480 : (Jvm.Cond.lays "java/lang/ArrayIndexOutOfBoundsException" "java/lang/Throwable" "detailMessage" "Ljava/lang/String;") ∈ wsG := wsG_of (wsT2_in 227 rfl) rfl
theorem w_481 : (Jvm.Cond.lays "java/lang/ArrayIndexOutOfBoundsException" "java/lang/Throwable" "cause" "Ljava/lang/Throwable;") ∈ wsG := wsG_of (wsT2_in 228 rfl) rfl
theorem w_482 : (Jvm.Cond.lays "java/lang/ArrayIndexOutOfBoundsException" "java/lang/Throwable" "stackTrace" "[Ljava/lang/StackTraceElement;") ∈ wsG := wsG_of (wsT2_in 229 rfl) rfl
theorem w_483 : (Jvm.Cond.lays "java/lang/ArrayIndexOutOfBoundsException" "java/lang/Throwable" "depth" "I") ∈ wsG := wsG_of (wsT2_in 230 rfl) rfl
theorem w_484 : (Jvm.Cond.lays "java/lang/ArrayIndexOutOfBoundsException" "java/lang/Throwable" "suppressedExceptions" "Ljava/util/List;") ∈ wsG := wsG_of (wsT2_in 231 rfl) rfl
theorem w_489 : (Jvm.Cond.selects "java/lang/ArrayIndexOutOfBoundsException" ({ cls := "java/lang/Throwable", name := "fillInStackTrace", desc := "(I)Ljava/lang/Throwable;" } : Jvm.MethodName) ({ cls := "java/lang/Throwable", name := "fillInStackTrace", desc := "(I)Ljava/lang/Throwable;" } : Jvm.MethodName)) ∈ wsG := wsG_of (wsT2_in 236 rfl) rfl
theorem w_490 : (Jvm.Cond.instantiable "java/lang/String" (4 : Nat)) ∈ wsG := wsG_of (wsT2_in 237 rfl) rfl
theorem w_491 : (Jvm.Cond.laysFinal "java/lang/String" "java/lang/String" "value" "[B") ∈ wsG := wsG_of (wsT2_in 238 rfl) rfl
theorem w_493 : (Jvm.Cond.laysFinal "java/lang/String" "java/lang/String" "coder" "B") ∈ wsG := wsG_of (wsT3_in 0 rfl) rfl
theorem w_495 : (Jvm.Cond.methodLink "MapHallLaw" (17 : Nat) ({ cls := "MapHall", name := "addCrease", desc := "(IC)I" } : Jvm.MethodName)) ∈ wsG := wsG_of (wsT3_in 2 rfl) rfl
theorem w_496 : (Jvm.Cond.instanceMethod ({ cls := "MapHall", name := "addCrease", desc := "(IC)I" } : Jvm.MethodName)) ∈ wsG := wsG_of (wsT3_in 3 rfl) rfl
theorem w_497 : (Jvm.Cond.selects "MapHall" ({ cls := "MapHall", name := "addCrease", desc := "(IC)I" } : Jvm.MethodName) ({ cls := "MapHall", name := "addCrease", desc := "(IC)I" } : Jvm.MethodName)) ∈ wsG := wsG_of (wsT3_in 4 rfl) rfl
theorem w_498 : (Jvm.Cond.code ({ cls := "MapHall", name := "addCrease", desc := "(IC)I" } : Jvm.MethodName) prog_1_method_3_code (3 : Nat) (Option.some Jvm.ClassFile.FieldType.int)) ∈ wsG := wsG_of (wsT3_in 5 rfl) rfl
theorem w_499 : (Jvm.Cond.methodLink "MapHall" (73 : Nat) ({ cls := "MapHall$State", name := "tryAddCrease", desc := "(IC)I" } : Jvm.MethodName)) ∈ wsG := wsG_of (wsT3_in 6 rfl) rfl
theorem w_500 : (Jvm.Cond.instanceMethod ({ cls := "MapHall$State", name := "tryAddCrease", desc := "(IC)I" } : Jvm.MethodName)) ∈ wsG := wsG_of (wsT3_in 7 rfl) rfl
theorem w_501 : (Jvm.Cond.selects "MapHall$State" ({ cls := "MapHall$State", name := "tryAddCrease", desc := "(IC)I" } : Jvm.MethodName) ({ cls := "MapHall$State", name := "tryAddCrease", desc := "(IC)I" } : Jvm.MethodName)) ∈ wsG := wsG_of (wsT3_in 8 rfl) rfl
theorem w_502 : (Jvm.Cond.code ({ cls := "MapHall$State", name := "tryAddCrease", desc := "(IC)I" } : Jvm.MethodName) prog_11_method_4_code (4 : Nat) (Option.some Jvm.ClassFile.FieldType.int)) ∈ wsG := wsG_of (wsT3_in 9 rfl) rfl
theorem w_503 : (Jvm.Cond.methodLink "MapHall$State" (57 : Nat) ({ cls := "MapHall$State", name := "hasSheet", desc := "(I)Z" } : Jvm.MethodName)) ∈ wsG := wsG_of (wsT3_in 10 rfl) rfl
theorem w_504 : (Jvm.Cond.instanceMethod ({ cls := "MapHall$State", name := "hasSheet", desc := "(I)Z" } : Jvm.MethodName)) ∈ wsG := wsG_of (wsT3_in 11 rfl) rfl
theorem w_505 : (Jvm.Cond.selects "MapHall$State" ({ cls := "MapHall$State", name := "hasSheet", desc := "(I)Z" } : Jvm.MethodName) ({ cls := "MapHall$State", name := "hasSheet", desc := "(I)Z" } : Jvm.MethodName)) ∈ wsG := wsG_of (wsT3_in 12 rfl) rfl
theorem w_506 : (Jvm.Cond.code ({ cls := "MapHall$State", name := "hasSheet", desc := "(I)Z" } : Jvm.MethodName) prog_11_method_11_code (2 : Nat) (Option.some Jvm.ClassFile.FieldType.boolean)) ∈ wsG := wsG_of (wsT3_in 13 rfl) rfl
theorem w_508 : (Jvm.Cond.static ({ cls := "MapHall", name := "isCrease", desc := "(C)Z" } : Jvm.MethodName)) ∈ wsG := wsG_of (wsT3_in 15 rfl) rfl
theorem w_509 : (Jvm.Cond.code ({ cls := "MapHall", name := "isCrease", desc := "(C)Z" } : Jvm.MethodName) prog_1_method_70_code (1 : Nat) (Option.some Jvm.ClassFile.FieldType.boolean)) ∈ wsG := wsG_of (wsT3_in 16 rfl) rfl
theorem w_510 : (Jvm.Cond.methodLink "MapHallLaw" (252 : Nat) ({ cls := "MapHallLaw", name := "fold", desc := "(LMapHall;I)I" } : Jvm.MethodName)) ∈ wsG := wsG_of (wsT3_in 17 rfl) rfl
theorem w_511 : (Jvm.Cond.static ({ cls := "MapHallLaw", name := "fold", desc := "(LMapHall;I)I" } : Jvm.MethodName)) ∈ wsG := wsG_of (wsT3_in 18 rfl) rfl
theorem w_512 : (Jvm.Cond.codeWith ({ cls := "MapHallLaw", name := "fold", desc := "(LMapHall;I)I" } : Jvm.MethodName) method_6_code (3 : Nat) (Option.some Jvm.ClassFile.FieldType.int) [((0 : Nat), (5 : Nat), (6 : Nat), (21 : Nat)), ((0 : Nat), (5 : Nat), (11 : Nat), (15 : Nat))]) ∈ wsG := wsG_of (wsT3_in 19 rfl) rfl
theorem w_513 : (Jvm.Cond.methodLink "MapHallLaw" (23 : Nat) ({ cls := "MapHall", name := "fold", desc := "(I)I" } : Jvm.MethodName)) ∈ wsG := wsG_of (wsT3_in 20 rfl) rfl
theorem w_514 : (Jvm.Cond.instanceMethod ({ cls := "MapHall", name := "fold", desc := "(I)I" } : Jvm.MethodName)) ∈ wsG := wsG_of (wsT3_in 21 rfl) rfl
theorem w_515 : (Jvm.Cond.selects "MapHall" ({ cls := "MapHall", name := "fold", desc := "(I)I" } : Jvm.MethodName) ({ cls := "MapHall", name := "fold", desc := "(I)I" } : Jvm.MethodName)) ∈ wsG := wsG_of (wsT3_in 22 rfl) rfl
theorem w_516 : (Jvm.Cond.code ({ cls := "MapHall", name := "fold", desc := "(I)I" } : Jvm.MethodName) prog_1_method_4_code (2 : Nat) (Option.some Jvm.ClassFile.FieldType.int)) ∈ wsG := wsG_of (wsT3_in 23 rfl) rfl
theorem w_517 : (Jvm.Cond.methodLink "MapHall" (77 : Nat) ({ cls := "MapHall$State", name := "tryFold", desc := "(I)I" } : Jvm.MethodName)) ∈ wsG := wsG_of (wsT3_in 24 rfl) rfl
theorem w_518 : (Jvm.Cond.instanceMethod ({ cls := "MapHall$State", name := "tryFold", desc := "(I)I" } : Jvm.MethodName)) ∈ wsG := wsG_of (wsT3_in 25 rfl) rfl
theorem w_519 : (Jvm.Cond.selects "MapHall$State" ({ cls := "MapHall$State", name := "tryFold", desc := "(I)I" } : Jvm.MethodName) ({ cls := "MapHall$State", name := "tryFold", desc := "(I)I" } : Jvm.MethodName)) ∈ wsG := wsG_of (wsT3_in 26 rfl) rfl
theorem w_520 : (Jvm.Cond.code ({ cls := "MapHall$State", name := "tryFold", desc := "(I)I" } : Jvm.MethodName) prog_11_method_5_code (3 : Nat) (Option.some Jvm.ClassFile.FieldType.int)) ∈ wsG := wsG_of (wsT3_in 27 rfl) rfl
theorem w_521 : (Jvm.Cond.methodLink "MapHall$State" (74 : Nat) ({ cls := "MapHall$Sheet", name := "onTable", desc := "()Z" } : Jvm.MethodName)) ∈ wsG := wsG_of (wsT3_in 28 rfl) rfl
theorem w_522 : (Jvm.Cond.instanceMethod ({ cls := "MapHall$Sheet", name := "onTable", desc := "()Z" } : Jvm.MethodName)) ∈ wsG := wsG_of (wsT3_in 29 rfl) rfl
theorem w_523 : (Jvm.Cond.selects "MapHall$Sheet" ({ cls := "MapHall$Sheet", name := "onTable", desc := "()Z" } : Jvm.MethodName) ({ cls := "MapHall$Sheet", name := "onTable", desc := "()Z" } : Jvm.MethodName)) ∈ wsG := wsG_of (wsT3_in 30 rfl) rfl
theorem w_524 : (Jvm.Cond.code ({ cls := "MapHall$Sheet", name := "onTable", desc := "()Z" } : Jvm.MethodName) prog_9_method_5_code (1 : Nat) (Option.some Jvm.ClassFile.FieldType.boolean)) ∈ wsG := wsG_of (wsT3_in 31 rfl) rfl
theorem w_525 : (Jvm.Cond.methodLink "MapHall$State" (81 : Nat) ({ cls := "java/lang/Math", name := "min", desc := "(II)I" } : Jvm.MethodName)) ∈ wsG := wsG_of (wsT3_in 32 rfl) rfl
theorem w_526 : (Jvm.Cond.methodLink "MapHallLaw" (254 : Nat) ({ cls := "MapHallLaw", name := "unfold", desc := "(LMapHall;I)I" } : Jvm.MethodName)) ∈ wsG := wsG_of (wsT3_in 33 rfl) rfl
theorem w_527 : (Jvm.Cond.static ({ cls := "MapHallLaw", name := "unfold", desc := "(LMapHall;I)I" } : Jvm.MethodName)) ∈ wsG := wsG_of (wsT3_in 34 rfl) rfl
theorem w_528 : (Jvm.Cond.codeWith ({ cls := "MapHallLaw", name := "unfold", desc := "(LMapHall;I)I" } : Jvm.MethodName) method_7_code (3 : Nat) (Option.some Jvm.ClassFile.FieldType.int) [((0 : Nat), (5 : Nat), (6 : Nat), (21 : Nat)), ((0 : Nat), (5 : Nat), (11 : Nat), (15 : Nat))]) ∈ wsG := wsG_of (wsT3_in 35 rfl) rfl
theorem w_529 : (Jvm.Cond.methodLink "MapHallLaw" (27 : Nat) ({ cls := "MapHall", name := "unfold", desc := "(I)I" } : Jvm.MethodName)) ∈ wsG := wsG_of (wsT3_in 36 rfl) rfl
theorem w_530 : (Jvm.Cond.instanceMethod ({ cls := "MapHall", name := "unfold", desc := "(I)I" } : Jvm.MethodName)) ∈ wsG := wsG_of (wsT3_in 37 rfl) rfl
theorem w_531 : (Jvm.Cond.selects "MapHall" ({ cls := "MapHall", name := "unfold", desc := "(I)I" } : Jvm.MethodName) ({ cls := "MapHall", name := "unfold", desc := "(I)I" } : Jvm.MethodName)) ∈ wsG := wsG_of (wsT3_in 38 rfl) rfl
theorem w_532 : (Jvm.Cond.code ({ cls := "MapHall", name := "unfold", desc := "(I)I" } : Jvm.MethodName) prog_1_method_5_code (2 : Nat) (Option.some Jvm.ClassFile.FieldType.int)) ∈ wsG := wsG_of (wsT3_in 39 rfl) rfl
theorem w_533 : (Jvm.Cond.methodLink "MapHall" (80 : Nat) ({ cls := "MapHall$State", name := "tryUnfold", desc := "(I)I" } : Jvm.MethodName)) ∈ wsG := wsG_of (wsT3_in 40 rfl) rfl
theorem w_534 : (Jvm.Cond.instanceMethod ({ cls := "MapHall$State", name := "tryUnfold", desc := "(I)I" } : Jvm.MethodName)) ∈ wsG := wsG_of (wsT3_in 41 rfl) rfl
theorem w_535 : (Jvm.Cond.selects "MapHall$State" ({ cls := "MapHall$State", name := "tryUnfold", desc := "(I)I" } : Jvm.MethodName) ({ cls := "MapHall$State", name := "tryUnfold", desc := "(I)I" } : Jvm.MethodName)) ∈ wsG := wsG_of (wsT3_in 42 rfl) rfl
theorem w_536 : (Jvm.Cond.code ({ cls := "MapHall$State", name := "tryUnfold", desc := "(I)I" } : Jvm.MethodName) prog_11_method_6_code (2 : Nat) (Option.some Jvm.ClassFile.FieldType.int)) ∈ wsG := wsG_of (wsT3_in 43 rfl) rfl
theorem w_537 : (Jvm.Cond.methodLink "MapHall$State" (87 : Nat) ({ cls := "MapHall$State", name := "countFlat", desc := "()I" } : Jvm.MethodName)) ∈ wsG := wsG_of (wsT3_in 44 rfl) rfl
theorem w_538 : (Jvm.Cond.instanceMethod ({ cls := "MapHall$State", name := "countFlat", desc := "()I" } : Jvm.MethodName)) ∈ wsG := wsG_of (wsT3_in 45 rfl) rfl
theorem w_539 : (Jvm.Cond.selects "MapHall$State" ({ cls := "MapHall$State", name := "countFlat", desc := "()I" } : Jvm.MethodName) ({ cls := "MapHall$State", name := "countFlat", desc := "()I" } : Jvm.MethodName)) ∈ wsG := wsG_of (wsT3_in 46 rfl) rfl
theorem w_540 : (Jvm.Cond.code ({ cls := "MapHall$State", name := "countFlat", desc := "()I" } : Jvm.MethodName) prog_11_method_22_code (3 : Nat) (Option.some Jvm.ClassFile.FieldType.int)) ∈ wsG := wsG_of (wsT3_in 47 rfl) rfl
theorem w_541 : (Jvm.Cond.methodLink "MapHallLaw" (256 : Nat) ({ cls := "MapHallLaw", name := "mend", desc := "(LMapHall;I)I" } : Jvm.MethodName)) ∈ wsG := wsG_of (wsT3_in 48 rfl) rfl
theorem w_542 : (Jvm.Cond.static ({ cls := "MapHallLaw", name := "mend", desc := "(LMapHall;I)I" } : Jvm.MethodName)) ∈ wsG := wsG_of (wsT3_in 49 rfl) rfl
theorem w_543 : (Jvm.Cond.codeWith ({ cls := "MapHallLaw", name := "mend", desc := "(LMapHall;I)I" } : Jvm.MethodName) method_8_code (3 : Nat) (Option.some Jvm.ClassFile.FieldType.int) [((0 : Nat), (5 : Nat), (6 : Nat), (21 : Nat)), ((0 : Nat), (5 : Nat), (11 : Nat), (15 : Nat)), ((0 : Nat), (5 : Nat), (16 : Nat), (33 : Nat))]) ∈ wsG := wsG_of (wsT3_in 50 rfl) rfl
theorem w_544 : (Jvm.Cond.classLink "MapHallLaw" (33 : Nat) "java/lang/UnsupportedOperationException") ∈ wsG := wsG_of (wsT3_in 51 rfl) rfl
theorem w_545 : (Jvm.Cond.methodLink "MapHallLaw" (30 : Nat) ({ cls := "MapHall", name := "mend", desc := "(I)I" } : Jvm.MethodName)) ∈ wsG := wsG_of (wsT3_in 52 rfl) rfl
theorem w_546 : (Jvm.Cond.instanceMethod ({ cls := "MapHall", name := "mend", desc := "(I)I" } : Jvm.MethodName)) ∈ wsG := wsG_of (wsT3_in 53 rfl) rfl
theorem w_547 : (Jvm.Cond.selects "MapHall" ({ cls := "MapHall", name := "mend", desc := "(I)I" } : Jvm.MethodName) ({ cls := "MapHall", name := "mend", desc := "(I)I" } : Jvm.MethodName)) ∈ wsG := wsG_of (wsT3_in 54 rfl) rfl
theorem w_548 : (Jvm.Cond.code ({ cls := "MapHall", name := "mend", desc := "(I)I" } : Jvm.MethodName) prog_1_method_6_code (2 : Nat) (Option.some Jvm.ClassFile.FieldType.int)) ∈ wsG := wsG_of (wsT3_in 55 rfl) rfl
theorem w_549 : (Jvm.Cond.methodLink "MapHall" (83 : Nat) ({ cls := "MapHall$State", name := "tryMend", desc := "(I)I" } : Jvm.MethodName)) ∈ wsG := wsG_of (wsT3_in 56 rfl) rfl
theorem w_550 : (Jvm.Cond.instanceMethod ({ cls := "MapHall$State", name := "tryMend", desc := "(I)I" } : Jvm.MethodName)) ∈ wsG := wsG_of (wsT3_in 57 rfl) rfl
theorem w_551 : (Jvm.Cond.selects "MapHall$State" ({ cls := "MapHall$State", name := "tryMend", desc := "(I)I" } : Jvm.MethodName) ({ cls := "MapHall$State", name := "tryMend", desc := "(I)I" } : Jvm.MethodName)) ∈ wsG := wsG_of (wsT3_in 58 rfl) rfl
theorem w_552 : (Jvm.Cond.code ({ cls := "MapHall$State", name := "tryMend", desc := "(I)I" } : Jvm.MethodName) prog_11_method_7_code (3 : Nat) (Option.some Jvm.ClassFile.FieldType.int)) ∈ wsG := wsG_of (wsT3_in 59 rfl) rfl
theorem w_553 : (Jvm.Cond.methodLink "MapHallLaw" (185 : Nat) ({ cls := "MapHallLaw", name := "put", desc := "(LMapHall;III)I" } : Jvm.MethodName)) ∈ wsG := wsG_of (wsT3_in 60 rfl) rfl
theorem w_554 : (Jvm.Cond.static ({ cls := "MapHallLaw", name := "put", desc := "(LMapHall;III)I" } : Jvm.MethodName)) ∈ wsG := wsG_of (wsT3_in 61 rfl) rfl
theorem w_555 : (Jvm.Cond.codeWith ({ cls := "MapHallLaw", name := "put", desc := "(LMapHall;III)I" } : Jvm.MethodName) method_9_code (5 : Nat) (Option.some Jvm.ClassFile.FieldType.int) [((0 : Nat), (7 : Nat), (8 : Nat), (21 : Nat)), ((0 : Nat), (7 : Nat), (14 : Nat), (13 : Nat)), ((0 : Nat), (7 : Nat), (20 : Nat), (15 : Nat)), ((0 : Nat), (7 : Nat), (26 : Nat), (33 : Nat))]) ∈ wsG := wsG_of (wsT3_in 62 rfl) rfl
theorem w_556 : (Jvm.Cond.methodLink "MapHallLaw" (35 : Nat) ({ cls := "MapHall", name := "put", desc := "(III)I" } : Jvm.MethodName)) ∈ wsG := wsG_of (wsT3_in 63 rfl) rfl
theorem w_557 : (Jvm.Cond.instanceMethod ({ cls := "MapHall", name := "put", desc := "(III)I" } : Jvm.MethodName)) ∈ wsG := wsG_of (wsT3_in 64 rfl) rfl
theorem w_558 : (Jvm.Cond.selects "MapHall" ({ cls := "MapHall", name := "put", desc := "(III)I" } : Jvm.MethodName) ({ cls := "MapHall", name := "put", desc := "(III)I" } : Jvm.MethodName)) ∈ wsG := wsG_of (wsT3_in 65 rfl) rfl
theorem w_559 : (Jvm.Cond.code ({ cls := "MapHall", name := "put", desc := "(III)I" } : Jvm.MethodName) prog_1_method_7_code (4 : Nat) (Option.some Jvm.ClassFile.FieldType.int)) ∈ wsG := wsG_of (wsT3_in 66 rfl) rfl
theorem w_560 : (Jvm.Cond.methodLink "MapHall" (86 : Nat) ({ cls := "MapHall$State", name := "tryPut", desc := "(III)I" } : Jvm.MethodName)) ∈ wsG := wsG_of (wsT3_in 67 rfl) rfl
theorem w_561 : (Jvm.Cond.instanceMethod ({ cls := "MapHall$State", name := "tryPut", desc := "(III)I" } : Jvm.MethodName)) ∈ wsG := wsG_of (wsT3_in 68 rfl) rfl
theorem w_562 : (Jvm.Cond.selects "MapHall$State" ({ cls := "MapHall$State", name := "tryPut", desc := "(III)I" } : Jvm.MethodName) ({ cls := "MapHall$State", name := "tryPut", desc := "(III)I" } : Jvm.MethodName)) ∈ wsG := wsG_of (wsT3_in 69 rfl) rfl
theorem w_563 : (Jvm.Cond.code ({ cls := "MapHall$State", name := "tryPut", desc := "(III)I" } : Jvm.MethodName) prog_11_method_8_code (4 : Nat) (Option.some Jvm.ClassFile.FieldType.int)) ∈ wsG := wsG_of (wsT3_in 70 rfl) rfl
theorem w_565 : (Jvm.Cond.static ({ cls := "MapHall", name := "isCell", desc := "(I)Z" } : Jvm.MethodName)) ∈ wsG := wsG_of (wsT3_in 72 rfl) rfl
theorem w_566 : (Jvm.Cond.code ({ cls := "MapHall", name := "isCell", desc := "(I)Z" } : Jvm.MethodName) prog_1_method_66_code (1 : Nat) (Option.some Jvm.ClassFile.FieldType.boolean)) ∈ wsG := wsG_of (wsT3_in 73 rfl) rfl
theorem w_568 : (Jvm.Cond.static ({ cls := "MapHall", name := "isTurns", desc := "(I)Z" } : Jvm.MethodName)) ∈ wsG := wsG_of (wsT3_in 75 rfl) rfl
theorem w_569 : (Jvm.Cond.code ({ cls := "MapHall", name := "isTurns", desc := "(I)Z" } : Jvm.MethodName) prog_1_method_67_code (1 : Nat) (Option.some Jvm.ClassFile.FieldType.boolean)) ∈ wsG := wsG_of (wsT3_in 76 rfl) rfl
theorem w_570 : (Jvm.Cond.methodLink "MapHall$State" (97 : Nat) ({ cls := "MapHall$Sheet", name := "canBeLaid", desc := "()Z" } : Jvm.MethodName)) ∈ wsG := wsG_of (wsT3_in 77 rfl) rfl
theorem w_571 : (Jvm.Cond.instanceMethod ({ cls := "MapHall$Sheet", name := "canBeLaid", desc := "()Z" } : Jvm.MethodName)) ∈ wsG := wsG_of (wsT3_in 78 rfl) rfl
theorem w_572 : (Jvm.Cond.selects "MapHall$Sheet" ({ cls := "MapHall$Sheet", name := "canBeLaid", desc := "()Z" } : Jvm.MethodName) ({ cls := "MapHall$Sheet", name := "canBeLaid", desc := "()Z" } : Jvm.MethodName)) ∈ wsG := wsG_of (wsT3_in 79 rfl) rfl
theorem w_573 : (Jvm.Cond.code ({ cls := "MapHall$Sheet", name := "canBeLaid", desc := "()Z" } : Jvm.MethodName) prog_9_method_6_code (1 : Nat) (Option.some Jvm.ClassFile.FieldType.boolean)) ∈ wsG := wsG_of (wsT3_in 80 rfl) rfl
theorem w_574 : (Jvm.Cond.methodLink "MapHall$Sheet" (46 : Nat) ({ cls := "MapHall$Sheet", name := "torn", desc := "()Z" } : Jvm.MethodName)) ∈ wsG := wsG_of (wsT3_in 81 rfl) rfl
theorem w_575 : (Jvm.Cond.instanceMethod ({ cls := "MapHall$Sheet", name := "torn", desc := "()Z" } : Jvm.MethodName)) ∈ wsG := wsG_of (wsT3_in 82 rfl) rfl
theorem w_576 : (Jvm.Cond.selects "MapHall$Sheet" ({ cls := "MapHall$Sheet", name := "torn", desc := "()Z" } : Jvm.MethodName) ({ cls := "MapHall$Sheet", name := "torn", desc := "()Z" } : Jvm.MethodName)) ∈ wsG := wsG_of (wsT3_in 83 rfl) rfl
theorem w_577 : (Jvm.Cond.code ({ cls := "MapHall$Sheet", name := "torn", desc := "()Z" } : Jvm.MethodName) prog_9_method_4_code (1 : Nat) (Option.some Jvm.ClassFile.FieldType.boolean)) ∈ wsG := wsG_of (wsT3_in 84 rfl) rfl
theorem w_578 : (Jvm.Cond.methodLink "MapHall$Sheet" (50 : Nat) ({ cls := "MapHall$Sheet", name := "onTable", desc := "()Z" } : Jvm.MethodName)) ∈ wsG := wsG_of (wsT3_in 85 rfl) rfl
theorem w_579 : (Jvm.Cond.methodLink "MapHall$State" (100 : Nat) ({ cls := "MapHall$State", name := "isOccupied", desc := "(I)Z" } : Jvm.MethodName)) ∈ wsG := wsG_of (wsT3_in 86 rfl) rfl
theorem w_580 : (Jvm.Cond.instanceMethod ({ cls := "MapHall$State", name := "isOccupied", desc := "(I)Z" } : Jvm.MethodName)) ∈ wsG := wsG_of (wsT3_in 87 rfl) rfl
theorem w_581 : (Jvm.Cond.selects "MapHall$State" ({ cls := "MapHall$State", name := "isOccupied", desc := "(I)Z" } : Jvm.MethodName) ({ cls := "MapHall$State", name := "isOccupied", desc := "(I)Z" } : Jvm.MethodName)) ∈ wsG := wsG_of (wsT3_in 88 rfl) rfl
theorem w_582 : (Jvm.Cond.code ({ cls := "MapHall$State", name := "isOccupied", desc := "(I)Z" } : Jvm.MethodName) prog_11_method_12_code (2 : Nat) (Option.some Jvm.ClassFile.FieldType.boolean)) ∈ wsG := wsG_of (wsT3_in 89 rfl) rfl
theorem w_583 : (Jvm.Cond.methodLink "MapHall$State" (103 : Nat) ({ cls := "MapHall$State", name := "fits", desc := "(LMapHall$Sheet;II)Z" } : Jvm.MethodName)) ∈ wsG := wsG_of (wsT3_in 90 rfl) rfl
theorem w_584 : (Jvm.Cond.instanceMethod ({ cls := "MapHall$State", name := "fits", desc := "(LMapHall$Sheet;II)Z" } : Jvm.MethodName)) ∈ wsG := wsG_of (wsT3_in 91 rfl) rfl
theorem w_585 : (Jvm.Cond.selects "MapHall$State" ({ cls := "MapHall$State", name := "fits", desc := "(LMapHall$Sheet;II)Z" } : Jvm.MethodName) ({ cls := "MapHall$State", name := "fits", desc := "(LMapHall$Sheet;II)Z" } : Jvm.MethodName)) ∈ wsG := wsG_of (wsT3_in 92 rfl) rfl
theorem w_586 : (Jvm.Cond.code ({ cls := "MapHall$State", name := "fits", desc := "(LMapHall$Sheet;II)Z" } : Jvm.MethodName) prog_11_method_19_code (6 : Nat) (Option.some Jvm.ClassFile.FieldType.boolean)) ∈ wsG := wsG_of (wsT3_in 93 rfl) rfl
theorem w_587 : (Jvm.Cond.methodLink "MapHall$State" (132 : Nat) ({ cls := "MapHall$State", name := "isOccupiedBeside", desc := "(II)Z" } : Jvm.MethodName)) ∈ wsG := wsG_of (wsT3_in 94 rfl) rfl
theorem w_588 : (Jvm.Cond.instanceMethod ({ cls := "MapHall$State", name := "isOccupiedBeside", desc := "(II)Z" } : Jvm.MethodName)) ∈ wsG := wsG_of (wsT3_in 95 rfl) rfl
theorem w_589 : (Jvm.Cond.selects "MapHall$State" ({ cls := "MapHall$State", name := "isOccupiedBeside", desc := "(II)Z" } : Jvm.MethodName) ({ cls := "MapHall$State", name := "isOccupiedBeside", desc := "(II)Z" } : Jvm.MethodName)) ∈ wsG := wsG_of (wsT3_in 96 rfl) rfl
theorem w_590 : (Jvm.Cond.code ({ cls := "MapHall$State", name := "isOccupiedBeside", desc := "(II)Z" } : Jvm.MethodName) prog_11_method_16_code (4 : Nat) (Option.some Jvm.ClassFile.FieldType.boolean)) ∈ wsG := wsG_of (wsT3_in 97 rfl) rfl
theorem w_592 : (Jvm.Cond.static ({ cls := "MapHall", name := "neighbour", desc := "(II)I" } : Jvm.MethodName)) ∈ wsG := wsG_of (wsT3_in 99 rfl) rfl
theorem w_593 : (Jvm.Cond.code ({ cls := "MapHall", name := "neighbour", desc := "(II)I" } : Jvm.MethodName) prog_1_method_71_code (3 : Nat) (Option.some Jvm.ClassFile.FieldType.int)) ∈ wsG := wsG_of (wsT3_in 100 rfl) rfl
theorem w_594 : (Jvm.Cond.methodLink "MapHall$State" (125 : Nat) ({ cls := "MapHall$State", name := "sheetLaidIn", desc := "(I)LMapHall$Sheet;" } : Jvm.MethodName)) ∈ wsG := wsG_of (wsT3_in 101 rfl) rfl
theorem w_595 : (Jvm.Cond.instanceMethod ({ cls := "MapHall$State", name := "sheetLaidIn", desc := "(I)LMapHall$Sheet;" } : Jvm.MethodName)) ∈ wsG := wsG_of (wsT3_in 102 rfl) rfl
theorem w_596 : (Jvm.Cond.selects "MapHall$State" ({ cls := "MapHall$State", name := "sheetLaidIn", desc := "(I)LMapHall$Sheet;" } : Jvm.MethodName) ({ cls := "MapHall$State", name := "sheetLaidIn", desc := "(I)LMapHall$Sheet;" } : Jvm.MethodName)) ∈ wsG := wsG_of (wsT3_in 103 rfl) rfl
theorem w_597 : (Jvm.Cond.code ({ cls := "MapHall$State", name := "sheetLaidIn", desc := "(I)LMapHall$Sheet;" } : Jvm.MethodName) prog_11_method_13_code (2 : Nat) (Option.some (Jvm.ClassFile.FieldType.object "MapHall$Sheet"))) ∈ wsG := wsG_of (wsT3_in 104 rfl) rfl
theorem w_598 : (Jvm.Cond.methodLink "MapHall$State" (140 : Nat) ({ cls := "MapHall$Sheet", name := "borderWhenTurned", desc := "(II)I" } : Jvm.MethodName)) ∈ wsG := wsG_of (wsT3_in 105 rfl) rfl
theorem w_599 : (Jvm.Cond.instanceMethod ({ cls := "MapHall$Sheet", name := "borderWhenTurned", desc := "(II)I" } : Jvm.MethodName)) ∈ wsG := wsG_of (wsT3_in 106 rfl) rfl
theorem w_600 : (Jvm.Cond.selects "MapHall$Sheet" ({ cls := "MapHall$Sheet", name := "borderWhenTurned", desc := "(II)I" } : Jvm.MethodName) ({ cls := "MapHall$Sheet", name := "borderWhenTurned", desc := "(II)I" } : Jvm.MethodName)) ∈ wsG := wsG_of (wsT3_in 107 rfl) rfl
theorem w_601 : (Jvm.Cond.code ({ cls := "MapHall$Sheet", name := "borderWhenTurned", desc := "(II)I" } : Jvm.MethodName) prog_9_method_7_code (3 : Nat) (Option.some Jvm.ClassFile.FieldType.int)) ∈ wsG := wsG_of (wsT3_in 108 rfl) rfl
theorem w_602 : (Jvm.Cond.methodLink "MapHall$Sheet" (53 : Nat) ({ cls := "java/lang/Math", name := "floorMod", desc := "(II)I" } : Jvm.MethodName)) ∈ wsG := wsG_of (wsT3_in 109 rfl) rfl
theorem w_603 : (Jvm.Cond.static ({ cls := "java/lang/Math", name := "floorMod", desc := "(II)I" } : Jvm.MethodName)) ∈ wsG := wsG_of (wsT3_in 110 rfl) rfl
theorem w_604 : (Jvm.Cond.code ({ cls := "java/lang/Math", name := "floorMod", desc := "(II)I" } : Jvm.MethodName) prog_30_method_50_code (3 : Nat) (Option.some Jvm.ClassFile.FieldType.int)) ∈ wsG := wsG_of (wsT3_in 111 rfl) rfl
theorem w_606 : (Jvm.Cond.static ({ cls := "MapHall", name := "opposite", desc := "(I)I" } : Jvm.MethodName)) ∈ wsG := wsG_of (wsT3_in 113 rfl) rfl
theorem w_607 : (Jvm.Cond.code ({ cls := "MapHall", name := "opposite", desc := "(I)I" } : Jvm.MethodName) prog_1_method_72_code (1 : Nat) (Option.some Jvm.ClassFile.FieldType.int)) ∈ wsG := wsG_of (wsT3_in 114 rfl) rfl
theorem w_608 : (Jvm.Cond.methodLink "MapHall$State" (146 : Nat) ({ cls := "MapHall$Sheet", name := "borderAsLaid", desc := "(I)I" } : Jvm.MethodName)) ∈ wsG := wsG_of (wsT3_in 115 rfl) rfl
theorem w_609 : (Jvm.Cond.instanceMethod ({ cls := "MapHall$Sheet", name := "borderAsLaid", desc := "(I)I" } : Jvm.MethodName)) ∈ wsG := wsG_of (wsT3_in 116 rfl) rfl
theorem w_610 : (Jvm.Cond.selects "MapHall$Sheet" ({ cls := "MapHall$Sheet", name := "borderAsLaid", desc := "(I)I" } : Jvm.MethodName) ({ cls := "MapHall$Sheet", name := "borderAsLaid", desc := "(I)I" } : Jvm.MethodName)) ∈ wsG := wsG_of (wsT3_in 117 rfl) rfl
theorem w_611 : (Jvm.Cond.code ({ cls := "MapHall$Sheet", name := "borderAsLaid", desc := "(I)I" } : Jvm.MethodName) prog_9_method_8_code (2 : Nat) (Option.some Jvm.ClassFile.FieldType.int)) ∈ wsG := wsG_of (wsT3_in 118 rfl) rfl
theorem w_612 : (Jvm.Cond.methodLink "MapHall$Sheet" (59 : Nat) ({ cls := "MapHall$Sheet", name := "borderWhenTurned", desc := "(II)I" } : Jvm.MethodName)) ∈ wsG := wsG_of (wsT3_in 119 rfl) rfl
theorem w_613 : (Jvm.Cond.methodLink "MapHall$State" (107 : Nat) ({ cls := "MapHall$State", name := "lay", desc := "(III)V" } : Jvm.MethodName)) ∈ wsG := wsG_of (wsT3_in 120 rfl) rfl
theorem w_614 : (Jvm.Cond.instanceMethod ({ cls := "MapHall$State", name := "lay", desc := "(III)V" } : Jvm.MethodName)) ∈ wsG := wsG_of (wsT3_in 121 rfl) rfl
theorem w_615 : (Jvm.Cond.selects "MapHall$State" ({ cls := "MapHall$State", name := "lay", desc := "(III)V" } : Jvm.MethodName) ({ cls := "MapHall$State", name := "lay", desc := "(III)V" } : Jvm.MethodName)) ∈ wsG := wsG_of (wsT3_in 122 rfl) rfl
theorem w_616 : (Jvm.Cond.code ({ cls := "MapHall$State", name := "lay", desc := "(III)V" } : Jvm.MethodName) prog_11_method_14_code (4 : Nat) (Option.none : Option Jvm.ClassFile.FieldType)) ∈ wsG := wsG_of (wsT3_in 123 rfl) rfl
theorem w_617 : (Jvm.Cond.methodLink "MapHall$State" (111 : Nat) ({ cls := "MapHall$State", name := "countBeside", desc := "(I)I" } : Jvm.MethodName)) ∈ wsG := wsG_of (wsT3_in 124 rfl) rfl
theorem w_618 : (Jvm.Cond.instanceMethod ({ cls := "MapHall$State", name := "countBeside", desc := "(I)I" } : Jvm.MethodName)) ∈ wsG := wsG_of (wsT3_in 125 rfl) rfl
theorem w_619 : (Jvm.Cond.selects "MapHall$State" ({ cls := "MapHall$State", name := "countBeside", desc := "(I)I" } : Jvm.MethodName) ({ cls := "MapHall$State", name := "countBeside", desc := "(I)I" } : Jvm.MethodName)) ∈ wsG := wsG_of (wsT3_in 126 rfl) rfl
theorem w_620 : (Jvm.Cond.code ({ cls := "MapHall$State", name := "countBeside", desc := "(I)I" } : Jvm.MethodName) prog_11_method_17_code (4 : Nat) (Option.some Jvm.ClassFile.FieldType.int)) ∈ wsG := wsG_of (wsT3_in 127 rfl) rfl
theorem w_621 : (Jvm.Cond.methodLink "MapHallLaw" (258 : Nat) ({ cls := "MapHallLaw", name := "take", desc := "(LMapHall;I)I" } : Jvm.MethodName)) ∈ wsG := wsG_of (wsT3_in 128 rfl) rfl
theorem w_622 : (Jvm.Cond.static ({ cls := "MapHallLaw", name := "take", desc := "(LMapHall;I)I" } : Jvm.MethodName)) ∈ wsG := wsG_of (wsT3_in 129 rfl) rfl
theorem w_623 : (Jvm.Cond.codeWith ({ cls := "MapHallLaw", name := "take", desc := "(LMapHall;I)I" } : Jvm.MethodName) method_10_code (3 : Nat) (Option.some Jvm.ClassFile.FieldType.int) [((0 : Nat), (5 : Nat), (6 : Nat), (21 : Nat)), ((0 : Nat), (5 : Nat), (11 : Nat), (42 : Nat))]) ∈ wsG := wsG_of (wsT3_in 130 rfl) rfl
theorem w_624 : (Jvm.Cond.classLink "MapHallLaw" (42 : Nat) "java/util/NoSuchElementException") ∈ wsG := wsG_of (wsT3_in 131 rfl) rfl
theorem w_625 : (Jvm.Cond.methodLink "MapHallLaw" (39 : Nat) ({ cls := "MapHall", name := "take", desc := "(I)I" } : Jvm.MethodName)) ∈ wsG := wsG_of (wsT3_in 132 rfl) rfl
theorem w_626 : (Jvm.Cond.instanceMethod ({ cls := "MapHall", name := "take", desc := "(I)I" } : Jvm.MethodName)) ∈ wsG := wsG_of (wsT3_in 133 rfl) rfl
theorem w_627 : (Jvm.Cond.selects "MapHall" ({ cls := "MapHall", name := "take", desc := "(I)I" } : Jvm.MethodName) ({ cls := "MapHall", name := "take", desc := "(I)I" } : Jvm.MethodName)) ∈ wsG := wsG_of (wsT3_in 134 rfl) rfl
theorem w_628 : (Jvm.Cond.code ({ cls := "MapHall", name := "take", desc := "(I)I" } : Jvm.MethodName) prog_1_method_8_code (2 : Nat) (Option.some Jvm.ClassFile.FieldType.int)) ∈ wsG := wsG_of (wsT3_in 135 rfl) rfl
theorem w_629 : (Jvm.Cond.methodLink "MapHall" (90 : Nat) ({ cls := "MapHall$State", name := "tryTake", desc := "(I)I" } : Jvm.MethodName)) ∈ wsG := wsG_of (wsT3_in 136 rfl) rfl
theorem w_630 : (Jvm.Cond.instanceMethod ({ cls := "MapHall$State", name := "tryTake", desc := "(I)I" } : Jvm.MethodName)) ∈ wsG := wsG_of (wsT3_in 137 rfl) rfl
theorem w_631 : (Jvm.Cond.selects "MapHall$State" ({ cls := "MapHall$State", name := "tryTake", desc := "(I)I" } : Jvm.MethodName) ({ cls := "MapHall$State", name := "tryTake", desc := "(I)I" } : Jvm.MethodName)) ∈ wsG := wsG_of (wsT3_in 138 rfl) rfl
theorem w_632 : (Jvm.Cond.code ({ cls := "MapHall$State", name := "tryTake", desc := "(I)I" } : Jvm.MethodName) prog_11_method_9_code (3 : Nat) (Option.some Jvm.ClassFile.FieldType.int)) ∈ wsG := wsG_of (wsT3_in 139 rfl) rfl
theorem w_633 : (Jvm.Cond.methodLink "MapHall$State" (115 : Nat) ({ cls := "MapHall$State", name := "lift", desc := "(I)V" } : Jvm.MethodName)) ∈ wsG := wsG_of (wsT3_in 140 rfl) rfl
theorem w_634 : (Jvm.Cond.instanceMethod ({ cls := "MapHall$State", name := "lift", desc := "(I)V" } : Jvm.MethodName)) ∈ wsG := wsG_of (wsT3_in 141 rfl) rfl
theorem w_635 : (Jvm.Cond.selects "MapHall$State" ({ cls := "MapHall$State", name := "lift", desc := "(I)V" } : Jvm.MethodName) ({ cls := "MapHall$State", name := "lift", desc := "(I)V" } : Jvm.MethodName)) ∈ wsG := wsG_of (wsT3_in 142 rfl) rfl
theorem w_636 : (Jvm.Cond.code ({ cls := "MapHall$State", name := "lift", desc := "(I)V" } : Jvm.MethodName) prog_11_method_15_code (2 : Nat) (Option.none : Option Jvm.ClassFile.FieldType)) ∈ wsG := wsG_of (wsT3_in 143 rfl) rfl
theorem w_637 : (Jvm.Cond.methodLink "MapHallLaw" (188 : Nat) ({ cls := "MapHallLaw", name := "addPaste", desc := "(LMapHall;I)I" } : Jvm.MethodName)) ∈ wsG := wsG_of (wsT3_in 144 rfl) rfl
theorem w_638 : (Jvm.Cond.static ({ cls := "MapHallLaw", name := "addPaste", desc := "(LMapHall;I)I" } : Jvm.MethodName)) ∈ wsG := wsG_of (wsT3_in 145 rfl) rfl
theorem w_639 : (Jvm.Cond.codeWith ({ cls := "MapHallLaw", name := "addPaste", desc := "(LMapHall;I)I" } : Jvm.MethodName) method_11_code (3 : Nat) (Option.some Jvm.ClassFile.FieldType.int) [((0 : Nat), (5 : Nat), (6 : Nat), (13 : Nat)), ((0 : Nat), (5 : Nat), (11 : Nat), (15 : Nat))]) ∈ wsG := wsG_of (wsT3_in 146 rfl) rfl
theorem w_640 : (Jvm.Cond.methodLink "MapHallLaw" (44 : Nat) ({ cls := "MapHall", name := "addPaste", desc := "(I)I" } : Jvm.MethodName)) ∈ wsG := wsG_of (wsT3_in 147 rfl) rfl
theorem w_641 : (Jvm.Cond.instanceMethod ({ cls := "MapHall", name := "addPaste", desc := "(I)I" } : Jvm.MethodName)) ∈ wsG := wsG_of (wsT3_in 148 rfl) rfl
theorem w_642 : (Jvm.Cond.selects "MapHall" ({ cls := "MapHall", name := "addPaste", desc := "(I)I" } : Jvm.MethodName) ({ cls := "MapHall", name := "addPaste", desc := "(I)I" } : Jvm.MethodName)) ∈ wsG := wsG_of (wsT3_in 149 rfl) rfl
theorem w_643 : (Jvm.Cond.code ({ cls := "MapHall", name := "addPaste", desc := "(I)I" } : Jvm.MethodName) prog_1_method_9_code (2 : Nat) (Option.some Jvm.ClassFile.FieldType.int)) ∈ wsG := wsG_of (wsT3_in 150 rfl) rfl
theorem w_644 : (Jvm.Cond.methodLink "MapHall" (93 : Nat) ({ cls := "MapHall$State", name := "tryAddPaste", desc := "(I)I" } : Jvm.MethodName)) ∈ wsG := wsG_of (wsT3_in 151 rfl) rfl
theorem w_645 : (Jvm.Cond.instanceMethod ({ cls := "MapHall$State", name := "tryAddPaste", desc := "(I)I" } : Jvm.MethodName)) ∈ wsG := wsG_of (wsT3_in 152 rfl) rfl
theorem w_646 : (Jvm.Cond.selects "MapHall$State" ({ cls := "MapHall$State", name := "tryAddPaste", desc := "(I)I" } : Jvm.MethodName) ({ cls := "MapHall$State", name := "tryAddPaste", desc := "(I)I" } : Jvm.MethodName)) ∈ wsG := wsG_of (wsT3_in 153 rfl) rfl
theorem w_647 : (Jvm.Cond.code ({ cls := "MapHall$State", name := "tryAddPaste", desc := "(I)I" } : Jvm.MethodName) prog_11_method_10_code (2 : Nat) (Option.some Jvm.ClassFile.FieldType.int)) ∈ wsG := wsG_of (wsT3_in 154 rfl) rfl
theorem w_648 : (Jvm.Cond.methodLink "MapHallLaw" (295 : Nat) ({ cls := "MapHallLaw", name := "wear", desc := "(LMapHall;I)I" } : Jvm.MethodName)) ∈ wsG := wsG_of (wsT3_in 155 rfl) rfl
theorem w_649 : (Jvm.Cond.static ({ cls := "MapHallLaw", name := "wear", desc := "(LMapHall;I)I" } : Jvm.MethodName)) ∈ wsG := wsG_of (wsT3_in 156 rfl) rfl
theorem w_650 : (Jvm.Cond.codeWith ({ cls := "MapHallLaw", name := "wear", desc := "(LMapHall;I)I" } : Jvm.MethodName) method_14_code (3 : Nat) (Option.some Jvm.ClassFile.FieldType.int) [((0 : Nat), (5 : Nat), (6 : Nat), (21 : Nat))]) ∈ wsG := wsG_of (wsT3_in 157 rfl) rfl
theorem w_651 : (Jvm.Cond.methodLink "MapHallLaw" (55 : Nat) ({ cls := "MapHall", name := "wear", desc := "(I)I" } : Jvm.MethodName)) ∈ wsG := wsG_of (wsT3_in 158 rfl) rfl
theorem w_652 : (Jvm.Cond.instanceMethod ({ cls := "MapHall", name := "wear", desc := "(I)I" } : Jvm.MethodName)) ∈ wsG := wsG_of (wsT3_in 159 rfl) rfl
theorem w_653 : (Jvm.Cond.selects "MapHall" ({ cls := "MapHall", name := "wear", desc := "(I)I" } : Jvm.MethodName) ({ cls := "MapHall", name := "wear", desc := "(I)I" } : Jvm.MethodName)) ∈ wsG := wsG_of (wsT3_in 160 rfl) rfl
theorem w_654 : (Jvm.Cond.code ({ cls := "MapHall", name := "wear", desc := "(I)I" } : Jvm.MethodName) prog_1_method_13_code (2 : Nat) (Option.some Jvm.ClassFile.FieldType.int)) ∈ wsG := wsG_of (wsT3_in 161 rfl) rfl
theorem w_655 : (Jvm.Cond.methodLink "MapHall" (99 : Nat) ({ cls := "MapHall", name := "demandedSheet", desc := "(I)LMapHall$Sheet;" } : Jvm.MethodName)) ∈ wsG := wsG_of (wsT3_in 162 rfl) rfl
theorem w_657 : (Jvm.Cond.instanceMethod ({ cls := "MapHall", name := "demandedSheet", desc := "(I)LMapHall$Sheet;" } : Jvm.MethodName)) ∈ wsG := wsG_of (wsT3_in 164 rfl) rfl
theorem w_658 : (Jvm.Cond.code ({ cls := "MapHall", name := "demandedSheet", desc := "(I)LMapHall$Sheet;" } : Jvm.MethodName) prog_1_method_57_code (2 : Nat) (Option.some (Jvm.ClassFile.FieldType.object "MapHall$Sheet"))) ∈ wsG := wsG_of (wsT3_in 165 rfl) rfl
theorem w_659 : (Jvm.Cond.methodLink "MapHall" (365 : Nat) ({ cls := "MapHall$State", name := "hasSheet", desc := "(I)Z" } : Jvm.MethodName)) ∈ wsG := wsG_of (wsT3_in 166 rfl) rfl
theorem w_661 : (Jvm.Cond.methodLink "MapHallLaw" (291 : Nat) ({ cls := "MapHallLaw", name := "isFolded", desc := "(LMapHall;I)I" } : Jvm.MethodName)) ∈ wsG := wsG_of (wsT3_in 168 rfl) rfl
theorem w_662 : (Jvm.Cond.static ({ cls := "MapHallLaw", name := "isFolded", desc := "(LMapHall;I)I" } : Jvm.MethodName)) ∈ wsG := wsG_of (wsT3_in 169 rfl) rfl
theorem w_663 : (Jvm.Cond.codeWith ({ cls := "MapHallLaw", name := "isFolded", desc := "(LMapHall;I)I" } : Jvm.MethodName) method_16_code (3 : Nat) (Option.some Jvm.ClassFile.FieldType.int) [((0 : Nat), (13 : Nat), (14 : Nat), (21 : Nat))]) ∈ wsG := wsG_of (wsT3_in 170 rfl) rfl
theorem w_664 : (Jvm.Cond.methodLink "MapHallLaw" (62 : Nat) ({ cls := "MapHall", name := "isFolded", desc := "(I)Z" } : Jvm.MethodName)) ∈ wsG := wsG_of (wsT3_in 171 rfl) rfl
theorem w_665 : (Jvm.Cond.instanceMethod ({ cls := "MapHall", name := "isFolded", desc := "(I)Z" } : Jvm.MethodName)) ∈ wsG := wsG_of (wsT3_in 172 rfl) rfl
theorem w_666 : (Jvm.Cond.selects "MapHall" ({ cls := "MapHall", name := "isFolded", desc := "(I)Z" } : Jvm.MethodName) ({ cls := "MapHall", name := "isFolded", desc := "(I)Z" } : Jvm.MethodName)) ∈ wsG := wsG_of (wsT3_in 173 rfl) rfl
theorem w_667 : (Jvm.Cond.code ({ cls := "MapHall", name := "isFolded", desc := "(I)Z" } : Jvm.MethodName) prog_1_method_15_code (2 : Nat) (Option.some Jvm.ClassFile.FieldType.boolean)) ∈ wsG := wsG_of (wsT3_in 174 rfl) rfl
theorem w_668 : (Jvm.Cond.methodLink "MapHallLaw" (242 : Nat) ({ cls := "MapHallLaw", name := "creaseCount", desc := "(LMapHall;I)I" } : Jvm.MethodName)) ∈ wsG := wsG_of (wsT3_in 175 rfl) rfl
theorem w_669 : (Jvm.Cond.static ({ cls := "MapHallLaw", name := "creaseCount", desc := "(LMapHall;I)I" } : Jvm.MethodName)) ∈ wsG := wsG_of (wsT3_in 176 rfl) rfl
theorem w_670 : (Jvm.Cond.codeWith ({ cls := "MapHallLaw", name := "creaseCount", desc := "(LMapHall;I)I" } : Jvm.MethodName) method_17_code (3 : Nat) (Option.some Jvm.ClassFile.FieldType.int) [((0 : Nat), (5 : Nat), (6 : Nat), (21 : Nat))]) ∈ wsG := wsG_of (wsT3_in 177 rfl) rfl
theorem w_671 : (Jvm.Cond.methodLink "MapHallLaw" (65 : Nat) ({ cls := "MapHall", name := "creaseCount", desc := "(I)I" } : Jvm.MethodName)) ∈ wsG := wsG_of (wsT3_in 178 rfl) rfl
theorem w_672 : (Jvm.Cond.instanceMethod ({ cls := "MapHall", name := "creaseCount", desc := "(I)I" } : Jvm.MethodName)) ∈ wsG := wsG_of (wsT3_in 179 rfl) rfl
theorem w_673 : (Jvm.Cond.selects "MapHall" ({ cls := "MapHall", name := "creaseCount", desc := "(I)I" } : Jvm.MethodName) ({ cls := "MapHall", name := "creaseCount", desc := "(I)I" } : Jvm.MethodName)) ∈ wsG := wsG_of (wsT3_in 180 rfl) rfl
theorem w_674 : (Jvm.Cond.code ({ cls := "MapHall", name := "creaseCount", desc := "(I)I" } : Jvm.MethodName) prog_1_method_16_code (2 : Nat) (Option.some Jvm.ClassFile.FieldType.int)) ∈ wsG := wsG_of (wsT3_in 181 rfl) rfl
theorem w_675 : (Jvm.Cond.methodLink "MapHallLaw" (307 : Nat) ({ cls := "MapHallLaw", name := "sheetIn", desc := "(LMapHall;I)I" } : Jvm.MethodName)) ∈ wsG := wsG_of (wsT3_in 182 rfl) rfl
theorem w_676 : (Jvm.Cond.static ({ cls := "MapHallLaw", name := "sheetIn", desc := "(LMapHall;I)I" } : Jvm.MethodName)) ∈ wsG := wsG_of (wsT3_in 183 rfl) rfl
theorem w_677 : (Jvm.Cond.codeWith ({ cls := "MapHallLaw", name := "sheetIn", desc := "(LMapHall;I)I" } : Jvm.MethodName) method_20_code (3 : Nat) (Option.some Jvm.ClassFile.FieldType.int) [((0 : Nat), (5 : Nat), (6 : Nat), (21 : Nat)), ((0 : Nat), (5 : Nat), (11 : Nat), (42 : Nat))]) ∈ wsG := wsG_of (wsT3_in 184 rfl) rfl
theorem w_678 : (Jvm.Cond.methodLink "MapHallLaw" (75 : Nat) ({ cls := "MapHall", name := "sheetIn", desc := "(I)I" } : Jvm.MethodName)) ∈ wsG := wsG_of (wsT3_in 185 rfl) rfl
theorem w_679 : (Jvm.Cond.instanceMethod ({ cls := "MapHall", name := "sheetIn", desc := "(I)I" } : Jvm.MethodName)) ∈ wsG := wsG_of (wsT3_in 186 rfl) rfl
theorem w_680 : (Jvm.Cond.selects "MapHall" ({ cls := "MapHall", name := "sheetIn", desc := "(I)I" } : Jvm.MethodName) ({ cls := "MapHall", name := "sheetIn", desc := "(I)I" } : Jvm.MethodName)) ∈ wsG := wsG_of (wsT3_in 187 rfl) rfl
theorem w_681 : (Jvm.Cond.code ({ cls := "MapHall", name := "sheetIn", desc := "(I)I" } : Jvm.MethodName) prog_1_method_19_code (2 : Nat) (Option.some Jvm.ClassFile.FieldType.int)) ∈ wsG := wsG_of (wsT3_in 188 rfl) rfl
theorem w_682 : (Jvm.Cond.methodLink "MapHall" (153 : Nat) ({ cls := "MapHall", name := "demandCell", desc := "(I)V" } : Jvm.MethodName)) ∈ wsG := wsG_of (wsT3_in 189 rfl) rfl
theorem w_683 : (Jvm.Cond.static ({ cls := "MapHall", name := "demandCell", desc := "(I)V" } : Jvm.MethodName)) ∈ wsG := wsG_of (wsT3_in 190 rfl) rfl
theorem w_684 : (Jvm.Cond.code ({ cls := "MapHall", name := "demandCell", desc := "(I)V" } : Jvm.MethodName) prog_1_method_58_code (1 : Nat) (Option.none : Option Jvm.ClassFile.FieldType)) ∈ wsG := wsG_of (wsT3_in 191 rfl) rfl
theorem w_685 : (Jvm.Cond.methodLink "MapHall" (374 : Nat) ({ cls := "MapHall", name := "isCell", desc := "(I)Z" } : Jvm.MethodName)) ∈ wsG := wsG_of (wsT3_in 192 rfl) rfl
theorem w_687 : (Jvm.Cond.methodLink "MapHall" (156 : Nat) ({ cls := "MapHall", name := "demandOccupied", desc := "(I)V" } : Jvm.MethodName)) ∈ wsG := wsG_of (wsT3_in 194 rfl) rfl
theorem w_689 : (Jvm.Cond.instanceMethod ({ cls := "MapHall", name := "demandOccupied", desc := "(I)V" } : Jvm.MethodName)) ∈ wsG := wsG_of (wsT3_in 196 rfl) rfl
theorem w_690 : (Jvm.Cond.code ({ cls := "MapHall", name := "demandOccupied", desc := "(I)V" } : Jvm.MethodName) prog_1_method_60_code (2 : Nat) (Option.none : Option Jvm.ClassFile.FieldType)) ∈ wsG := wsG_of (wsT3_in 197 rfl) rfl
theorem w_691 : (Jvm.Cond.methodLink "MapHall" (188 : Nat) ({ cls := "MapHall$State", name := "isOccupied", desc := "(I)Z" } : Jvm.MethodName)) ∈ wsG := wsG_of (wsT3_in 198 rfl) rfl
theorem w_692 : (Jvm.Cond.methodLink "MapHallLaw" (309 : Nat) ({ cls := "MapHallLaw", name := "turnsIn", desc := "(LMapHall;I)I" } : Jvm.MethodName)) ∈ wsG := wsG_of (wsT3_in 199 rfl) rfl
theorem w_693 : (Jvm.Cond.static ({ cls := "MapHallLaw", name := "turnsIn", desc := "(LMapHall;I)I" } : Jvm.MethodName)) ∈ wsG := wsG_of (wsT3_in 200 rfl) rfl
theorem w_694 : (Jvm.Cond.codeWith ({ cls := "MapHallLaw", name := "turnsIn", desc := "(LMapHall;I)I" } : Jvm.MethodName) method_21_code (3 : Nat) (Option.some Jvm.ClassFile.FieldType.int) [((0 : Nat), (5 : Nat), (6 : Nat), (21 : Nat)), ((0 : Nat), (5 : Nat), (11 : Nat), (42 : Nat))]) ∈ wsG := wsG_of (wsT3_in 201 rfl) rfl
theorem w_695 : (Jvm.Cond.methodLink "MapHallLaw" (78 : Nat) ({ cls := "MapHall", name := "turnsIn", desc := "(I)I" } : Jvm.MethodName)) ∈ wsG := wsG_of (wsT3_in 202 rfl) rfl
theorem w_696 : (Jvm.Cond.instanceMethod ({ cls := "MapHall", name := "turnsIn", desc := "(I)I" } : Jvm.MethodName)) ∈ wsG := wsG_of (wsT3_in 203 rfl) rfl
theorem w_697 : (Jvm.Cond.selects "MapHall" ({ cls := "MapHall", name := "turnsIn", desc := "(I)I" } : Jvm.MethodName) ({ cls := "MapHall", name := "turnsIn", desc := "(I)I" } : Jvm.MethodName)) ∈ wsG := wsG_of (wsT3_in 204 rfl) rfl
theorem w_698 : (Jvm.Cond.code ({ cls := "MapHall", name := "turnsIn", desc := "(I)I" } : Jvm.MethodName) prog_1_method_20_code (2 : Nat) (Option.some Jvm.ClassFile.FieldType.int)) ∈ wsG := wsG_of (wsT3_in 205 rfl) rfl
theorem w_699 : (Jvm.Cond.methodLink "MapHall" (163 : Nat) ({ cls := "MapHall$State", name := "sheetLaidIn", desc := "(I)LMapHall$Sheet;" } : Jvm.MethodName)) ∈ wsG := wsG_of (wsT3_in 206 rfl) rfl
theorem w_700 : (Jvm.Cond.methodLink "MapHallLaw" (158 : Nat) ({ cls := "MapHallLaw", name := "feed", desc := "(LMapHall;C)I" } : Jvm.MethodName)) ∈ wsG := wsG_of (wsT3_in 207 rfl) rfl
theorem w_701 : (Jvm.Cond.static ({ cls := "MapHallLaw", name := "feed", desc := "(LMapHall;C)I" } : Jvm.MethodName)) ∈ wsG := wsG_of (wsT3_in 208 rfl) rfl
theorem w_702 : (Jvm.Cond.codeWith ({ cls := "MapHallLaw", name := "feed", desc := "(LMapHall;C)I" } : Jvm.MethodName) method_34_code (3 : Nat) (Option.some Jvm.ClassFile.FieldType.int) [((0 : Nat), (5 : Nat), (6 : Nat), (15 : Nat))]) ∈ wsG := wsG_of (wsT3_in 209 rfl) rfl
theorem w_703 : (Jvm.Cond.methodLink "MapHallLaw" (125 : Nat) ({ cls := "MapHall", name := "feed", desc := "(C)I" } : Jvm.MethodName)) ∈ wsG := wsG_of (wsT3_in 210 rfl) rfl
theorem w_704 : (Jvm.Cond.instanceMethod ({ cls := "MapHall", name := "feed", desc := "(C)I" } : Jvm.MethodName)) ∈ wsG := wsG_of (wsT3_in 211 rfl) rfl
theorem w_705 : (Jvm.Cond.selects "MapHall" ({ cls := "MapHall", name := "feed", desc := "(C)I" } : Jvm.MethodName) ({ cls := "MapHall", name := "feed", desc := "(C)I" } : Jvm.MethodName)) ∈ wsG := wsG_of (wsT3_in 212 rfl) rfl
theorem w_706 : (Jvm.Cond.code ({ cls := "MapHall", name := "feed", desc := "(C)I" } : Jvm.MethodName) prog_1_method_44_code (2 : Nat) (Option.some Jvm.ClassFile.FieldType.int)) ∈ wsG := wsG_of (wsT3_in 213 rfl) rfl
theorem w_707 : (Jvm.Cond.methodLink "MapHall" (279 : Nat) ({ cls := "MapHall$Script", name := "isFull", desc := "()Z" } : Jvm.MethodName)) ∈ wsG := wsG_of (wsT3_in 214 rfl) rfl
theorem w_708 : (Jvm.Cond.instanceMethod ({ cls := "MapHall$Script", name := "isFull", desc := "()Z" } : Jvm.MethodName)) ∈ wsG := wsG_of (wsT3_in 215 rfl) rfl
theorem w_709 : (Jvm.Cond.selects "MapHall$Script" ({ cls := "MapHall$Script", name := "isFull", desc := "()Z" } : Jvm.MethodName) ({ cls := "MapHall$Script", name := "isFull", desc := "()Z" } : Jvm.MethodName)) ∈ wsG := wsG_of (wsT3_in 216 rfl) rfl
theorem w_710 : (Jvm.Cond.code ({ cls := "MapHall$Script", name := "isFull", desc := "()Z" } : Jvm.MethodName) prog_8_method_2_code (1 : Nat) (Option.some Jvm.ClassFile.FieldType.boolean)) ∈ wsG := wsG_of (wsT3_in 217 rfl) rfl
theorem w_712 : (Jvm.Cond.methodLink "MapHall" (284 : Nat) ({ cls := "MapHall$Script", name := "append", desc := "(C)V" } : Jvm.MethodName)) ∈ wsG := wsG_of (wsT3_in 219 rfl) rfl
theorem w_713 : (Jvm.Cond.instanceMethod ({ cls := "MapHall$Script", name := "append", desc := "(C)V" } : Jvm.MethodName)) ∈ wsG := wsG_of (wsT3_in 220 rfl) rfl
theorem w_714 : (Jvm.Cond.selects "MapHall$Script" ({ cls := "MapHall$Script", name := "append", desc := "(C)V" } : Jvm.MethodName) ({ cls := "MapHall$Script", name := "append", desc := "(C)V" } : Jvm.MethodName)) ∈ wsG := wsG_of (wsT3_in 221 rfl) rfl
theorem w_715 : (Jvm.Cond.code ({ cls := "MapHall$Script", name := "append", desc := "(C)V" } : Jvm.MethodName) prog_8_method_3_code (2 : Nat) (Option.none : Option Jvm.ClassFile.FieldType)) ∈ wsG := wsG_of (wsT3_in 222 rfl) rfl
theorem w_716 : (Jvm.Cond.methodLink "MapHallLaw" (163 : Nat) ({ cls := "MapHallLaw", name := "run", desc := "(LMapHall;)I" } : Jvm.MethodName)) ∈ wsG := wsG_of (wsT3_in 223 rfl) rfl
theorem w_717 : (Jvm.Cond.static ({ cls := "MapHallLaw", name := "run", desc := "(LMapHall;)I" } : Jvm.MethodName)) ∈ wsG := wsG_of (wsT3_in 224 rfl) rfl
theorem w_718 : (Jvm.Cond.codeWith ({ cls := "MapHallLaw", name := "run", desc := "(LMapHall;)I" } : Jvm.MethodName) method_35_code (2 : Nat) (Option.some Jvm.ClassFile.FieldType.int) [((0 : Nat), (4 : Nat), (5 : Nat), (13 : Nat)), ((0 : Nat), (4 : Nat), (10 : Nat), (33 : Nat))]) ∈ wsG := wsG_of (wsT3_in 225 rfl) rfl
theorem w_719 : (Jvm.Cond.methodLink "MapHallLaw" (129 : Nat) ({ cls := "MapHall", name := "runCommands", desc := "()I" } : Jvm.MethodName)) ∈ wsG := wsG_of (wsT3_in 226 rfl) rfl
theorem w_720 : (Jvm.Cond.instanceMethod ({ cls := "MapHall", name := "runCommands", desc := "()I" } : Jvm.MethodName)) ∈ wsG := wsG_of (wsT3_in 227 rfl) rfl
theorem w_721 : (Jvm.Cond.selects "MapHall" ({ cls := "MapHall", name := "runCommands", desc := "()I" } : Jvm.MethodName) ({ cls := "MapHall", name := "runCommands", desc := "()I" } : Jvm.MethodName)) ∈ wsG := wsG_of (wsT3_in 228 rfl) rfl
theorem w_722 : (Jvm.Cond.code ({ cls := "MapHall", name := "runCommands", desc := "()I" } : Jvm.MethodName) prog_1_method_45_code (3 : Nat) (Option.some Jvm.ClassFile.FieldType.int)) ∈ wsG := wsG_of (wsT3_in 229 rfl) rfl
theorem w_723 : (Jvm.Cond.methodLink "MapHall" (291 : Nat) ({ cls := "MapHall$Script", name := "read", desc := "()I" } : Jvm.MethodName)) ∈ wsG := wsG_of (wsT3_in 230 rfl) rfl
theorem w_724 : (Jvm.Cond.instanceMethod ({ cls := "MapHall$Script", name := "read", desc := "()I" } : Jvm.MethodName)) ∈ wsG := wsG_of (wsT3_in 231 rfl) rfl
theorem w_725 : (Jvm.Cond.selects "MapHall$Script" ({ cls := "MapHall$Script", name := "read", desc := "()I" } : Jvm.MethodName) ({ cls := "MapHall$Script", name := "read", desc := "()I" } : Jvm.MethodName)) ∈ wsG := wsG_of (wsT3_in 232 rfl) rfl
theorem w_726 : (Jvm.Cond.code ({ cls := "MapHall$Script", name := "read", desc := "()I" } : Jvm.MethodName) prog_8_method_5_code (4 : Nat) (Option.some Jvm.ClassFile.FieldType.int)) ∈ wsG := wsG_of (wsT3_in 233 rfl) rfl
theorem w_727 : (Jvm.Cond.methodLink "MapHall$Script" (29 : Nat) ({ cls := "MapHall$Script", name := "allForms", desc := "()I" } : Jvm.MethodName)) ∈ wsG := wsG_of (wsT3_in 234 rfl) rfl
theorem w_728 : (Jvm.Cond.static ({ cls := "MapHall$Script", name := "allForms", desc := "()I" } : Jvm.MethodName)) ∈ wsG := wsG_of (wsT3_in 235 rfl) rfl
theorem w_729 : (Jvm.Cond.code ({ cls := "MapHall$Script", name := "allForms", desc := "()I" } : Jvm.MethodName) prog_8_method_6_code (0 : Nat) (Option.some Jvm.ClassFile.FieldType.int)) ∈ wsG := wsG_of (wsT3_in 236 rfl) rfl
theorem w_732 : (Jvm.Cond.methodLink "MapHall$Script" (33 : Nat) ({ cls := "MapHall$Script", name := "noteCommand", desc := "(III)Z" } : Jvm.MethodName)) ∈ wsG := wsG_of (wsT3_in 239 rfl) rfl
theorem w_734 : (Jvm.Cond.instanceMethod ({ cls := "MapHall$Script", name := "noteCommand", desc := "(III)Z" } : Jvm.MethodName)) ∈ wsG := wsG_of (wsT4_in 1 rfl) rfl
theorem w_735 : (Jvm.Cond.code ({ cls := "MapHall$Script", name := "noteCommand", desc := "(III)Z" } : Jvm.MethodName) prog_8_method_8_code (5 : Nat) (Option.some Jvm.ClassFile.FieldType.boolean)) ∈ wsG := wsG_of (wsT4_in 2 rfl) rfl
theorem w_736 : (Jvm.Cond.methodLink "MapHall$Script" (51 : Nat) ({ cls := "MapHall$Form", name := "size", desc := "()I" } : Jvm.MethodName)) ∈ wsG := wsG_of (wsT4_in 3 rfl) rfl
theorem w_737 : (Jvm.Cond.instanceMethod ({ cls := "MapHall$Form", name := "size", desc := "()I" } : Jvm.MethodName)) ∈ wsG := wsG_of (wsT4_in 4 rfl) rfl
theorem w_738 : (Jvm.Cond.selects "MapHall$Form" ({ cls := "MapHall$Form", name := "size", desc := "()I" } : Jvm.MethodName) ({ cls := "MapHall$Form", name := "size", desc := "()I" } : Jvm.MethodName)) ∈ wsG := wsG_of (wsT4_in 5 rfl) rfl
theorem w_739 : (Jvm.Cond.code ({ cls := "MapHall$Form", name := "size", desc := "()I" } : Jvm.MethodName) prog_3_method_4_code (1 : Nat) (Option.some Jvm.ClassFile.FieldType.int)) ∈ wsG := wsG_of (wsT4_in 6 rfl) rfl
theorem w_740 : (Jvm.Cond.methodLink "MapHall$Form" (56 : Nat) ({ cls := "java/lang/String", name := "length", desc := "()I" } : Jvm.MethodName)) ∈ wsG := wsG_of (wsT4_in 7 rfl) rfl
theorem w_741 : (Jvm.Cond.instanceMethod ({ cls := "java/lang/String", name := "length", desc := "()I" } : Jvm.MethodName)) ∈ wsG := wsG_of (wsT4_in 8 rfl) rfl
theorem w_742 : (Jvm.Cond.selects "java/lang/String" ({ cls := "java/lang/String", name := "length", desc := "()I" } : Jvm.MethodName) ({ cls := "java/lang/String", name := "length", desc := "()I" } : Jvm.MethodName)) ∈ wsG := wsG_of (wsT4_in 9 rfl) rfl
theorem w_743 : (Jvm.Cond.code ({ cls := "java/lang/String", name := "length", desc := "()I" } : Jvm.MethodName) prog_33_method_54_code (1 : Nat) (Option.some Jvm.ClassFile.FieldType.int)) ∈ wsG := wsG_of (wsT4_in 10 rfl) rfl
theorem w_744 : (Jvm.Cond.methodLink "java/lang/String" (335 : Nat) ({ cls := "java/lang/String", name := "coder", desc := "()B" } : Jvm.MethodName)) ∈ wsG := wsG_of (wsT4_in 11 rfl) rfl
theorem w_745 : (Jvm.Cond.instanceMethod ({ cls := "java/lang/String", name := "coder", desc := "()B" } : Jvm.MethodName)) ∈ wsG := wsG_of (wsT4_in 12 rfl) rfl
theorem w_746 : (Jvm.Cond.selects "java/lang/String" ({ cls := "java/lang/String", name := "coder", desc := "()B" } : Jvm.MethodName) ({ cls := "java/lang/String", name := "coder", desc := "()B" } : Jvm.MethodName)) ∈ wsG := wsG_of (wsT4_in 13 rfl) rfl
theorem w_747 : (Jvm.Cond.code ({ cls := "java/lang/String", name := "coder", desc := "()B" } : Jvm.MethodName) prog_33_method_152_code (1 : Nat) (Option.some Jvm.ClassFile.FieldType.byte)) ∈ wsG := wsG_of (wsT4_in 14 rfl) rfl
theorem w_748 : (Jvm.Cond.fieldLink "java/lang/String" (38 : Nat) "java/lang/String" "COMPACT_STRINGS" "Z") ∈ wsG := wsG_of (wsT4_in 15 rfl) rfl
theorem w_750 : (Jvm.Cond.methodLink "MapHall$Script" (37 : Nat) ({ cls := "MapHall$Script", name := "stillAlive", desc := "(ICI)I" } : Jvm.MethodName)) ∈ wsG := wsG_of (wsT4_in 17 rfl) rfl
theorem w_751 : (Jvm.Cond.static ({ cls := "MapHall$Script", name := "stillAlive", desc := "(ICI)I" } : Jvm.MethodName)) ∈ wsG := wsG_of (wsT4_in 18 rfl) rfl
theorem w_752 : (Jvm.Cond.code ({ cls := "MapHall$Script", name := "stillAlive", desc := "(ICI)I" } : Jvm.MethodName) prog_8_method_7_code (5 : Nat) (Option.some Jvm.ClassFile.FieldType.int)) ∈ wsG := wsG_of (wsT4_in 19 rfl) rfl
theorem w_753 : (Jvm.Cond.methodLink "MapHall$Script" (45 : Nat) ({ cls := "MapHall$Form", name := "accepts", desc := "(CI)Z" } : Jvm.MethodName)) ∈ wsG := wsG_of (wsT4_in 20 rfl) rfl
theorem w_754 : (Jvm.Cond.instanceMethod ({ cls := "MapHall$Form", name := "accepts", desc := "(CI)Z" } : Jvm.MethodName)) ∈ wsG := wsG_of (wsT4_in 21 rfl) rfl
theorem w_755 : (Jvm.Cond.selects "MapHall$Form" ({ cls := "MapHall$Form", name := "accepts", desc := "(CI)Z" } : Jvm.MethodName) ({ cls := "MapHall$Form", name := "accepts", desc := "(CI)Z" } : Jvm.MethodName)) ∈ wsG := wsG_of (wsT4_in 22 rfl) rfl
theorem w_756 : (Jvm.Cond.code ({ cls := "MapHall$Form", name := "accepts", desc := "(CI)Z" } : Jvm.MethodName) prog_3_method_5_code (4 : Nat) (Option.some Jvm.ClassFile.FieldType.boolean)) ∈ wsG := wsG_of (wsT4_in 23 rfl) rfl
theorem w_757 : (Jvm.Cond.methodLink "MapHall$Form" (62 : Nat) ({ cls := "java/lang/String", name := "charAt", desc := "(I)C" } : Jvm.MethodName)) ∈ wsG := wsG_of (wsT4_in 24 rfl) rfl
theorem w_758 : (Jvm.Cond.instanceMethod ({ cls := "java/lang/String", name := "charAt", desc := "(I)C" } : Jvm.MethodName)) ∈ wsG := wsG_of (wsT4_in 25 rfl) rfl
theorem w_759 : (Jvm.Cond.selects "java/lang/String" ({ cls := "java/lang/String", name := "charAt", desc := "(I)C" } : Jvm.MethodName) ({ cls := "java/lang/String", name := "charAt", desc := "(I)C" } : Jvm.MethodName)) ∈ wsG := wsG_of (wsT4_in 26 rfl) rfl
theorem w_760 : (Jvm.Cond.code ({ cls := "java/lang/String", name := "charAt", desc := "(I)C" } : Jvm.MethodName) prog_33_method_56_code (2 : Nat) (Option.some Jvm.ClassFile.FieldType.char)) ∈ wsG := wsG_of (wsT4_in 27 rfl) rfl
theorem w_761 : (Jvm.Cond.methodLink "java/lang/String" (492 : Nat) ({ cls := "java/lang/String", name := "isLatin1", desc := "()Z" } : Jvm.MethodName)) ∈ wsG := wsG_of (wsT4_in 28 rfl) rfl
theorem w_762 : (Jvm.Cond.instanceMethod ({ cls := "java/lang/String", name := "isLatin1", desc := "()Z" } : Jvm.MethodName)) ∈ wsG := wsG_of (wsT4_in 29 rfl) rfl
theorem w_763 : (Jvm.Cond.selects "java/lang/String" ({ cls := "java/lang/String", name := "isLatin1", desc := "()Z" } : Jvm.MethodName) ({ cls := "java/lang/String", name := "isLatin1", desc := "()Z" } : Jvm.MethodName)) ∈ wsG := wsG_of (wsT4_in 30 rfl) rfl
theorem w_764 : (Jvm.Cond.code ({ cls := "java/lang/String", name := "isLatin1", desc := "()Z" } : Jvm.MethodName) prog_33_method_154_code (1 : Nat) (Option.some Jvm.ClassFile.FieldType.boolean)) ∈ wsG := wsG_of (wsT4_in 31 rfl) rfl
theorem w_765 : (Jvm.Cond.methodLink "java/lang/String" (495 : Nat) ({ cls := "java/lang/StringLatin1", name := "charAt", desc := "([BI)C" } : Jvm.MethodName)) ∈ wsG := wsG_of (wsT4_in 32 rfl) rfl
theorem w_766 : (Jvm.Cond.static ({ cls := "java/lang/StringLatin1", name := "charAt", desc := "([BI)C" } : Jvm.MethodName)) ∈ wsG := wsG_of (wsT4_in 33 rfl) rfl
theorem w_767 : (Jvm.Cond.code ({ cls := "java/lang/StringLatin1", name := "charAt", desc := "([BI)C" } : Jvm.MethodName) prog_35_method_2_code (2 : Nat) (Option.some Jvm.ClassFile.FieldType.char)) ∈ wsG := wsG_of (wsT4_in 34 rfl) rfl
theorem w_768 : (Jvm.Cond.methodLink "java/lang/StringLatin1" (9 : Nat) ({ cls := "java/lang/String", name := "checkIndex", desc := "(II)V" } : Jvm.MethodName)) ∈ wsG := wsG_of (wsT4_in 35 rfl) rfl
theorem w_769 : (Jvm.Cond.static ({ cls := "java/lang/String", name := "checkIndex", desc := "(II)V" } : Jvm.MethodName)) ∈ wsG := wsG_of (wsT4_in 36 rfl) rfl
theorem w_770 : (Jvm.Cond.code ({ cls := "java/lang/String", name := "checkIndex", desc := "(II)V" } : Jvm.MethodName) prog_33_method_155_code (2 : Nat) (Option.none : Option Jvm.ClassFile.FieldType)) ∈ wsG := wsG_of (wsT4_in 37 rfl) rfl
theorem w_771 : (Jvm.Cond.fieldLink "java/lang/String" (1053 : Nat) "jdk/internal/util/Preconditions" "SIOOBE_FORMATTER" "Ljava/util/function/BiFunction;") ∈ wsG := wsG_of (wsT4_in 38 rfl) rfl
theorem w_773 : (Jvm.Cond.methodLink "java/lang/String" (1059 : Nat) ({ cls := "jdk/internal/util/Preconditions", name := "checkIndex", desc := "(IILjava/util/function/BiFunction;)I" } : Jvm.MethodName)) ∈ wsG := wsG_of (wsT4_in 40 rfl) rfl
theorem w_774 : (Jvm.Cond.static ({ cls := "jdk/internal/util/Preconditions", name := "checkIndex", desc := "(IILjava/util/function/BiFunction;)I" } : Jvm.MethodName)) ∈ wsG := wsG_of (wsT4_in 41 rfl) rfl
theorem w_775 : (Jvm.Cond.code ({ cls := "jdk/internal/util/Preconditions", name := "checkIndex", desc := "(IILjava/util/function/BiFunction;)I" } : Jvm.MethodName) prog_45_method_11_code (3 : Nat) (Option.some Jvm.ClassFile.FieldType.int)) ∈ wsG := wsG_of (wsT4_in 42 rfl) rfl
theorem w_776 : (Jvm.Cond.methodLink "java/lang/String" (498 : Nat) ({ cls := "java/lang/StringUTF16", name := "charAt", desc := "([BI)C" } : Jvm.MethodName)) ∈ wsG := wsG_of (wsT4_in 43 rfl) rfl
theorem w_777 : (Jvm.Cond.static ({ cls := "java/lang/StringUTF16", name := "charAt", desc := "([BI)C" } : Jvm.MethodName)) ∈ wsG := wsG_of (wsT4_in 44 rfl) rfl
theorem w_778 : (Jvm.Cond.code ({ cls := "java/lang/StringUTF16", name := "charAt", desc := "([BI)C" } : Jvm.MethodName) prog_36_method_83_code (2 : Nat) (Option.some Jvm.ClassFile.FieldType.char)) ∈ wsG := wsG_of (wsT4_in 45 rfl) rfl
theorem w_779 : (Jvm.Cond.methodLink "java/lang/StringUTF16" (67 : Nat) ({ cls := "java/lang/StringUTF16", name := "checkIndex", desc := "(I[B)V" } : Jvm.MethodName)) ∈ wsG := wsG_of (wsT4_in 46 rfl) rfl
theorem w_780 : (Jvm.Cond.static ({ cls := "java/lang/StringUTF16", name := "checkIndex", desc := "(I[B)V" } : Jvm.MethodName)) ∈ wsG := wsG_of (wsT4_in 47 rfl) rfl
theorem w_781 : (Jvm.Cond.code ({ cls := "java/lang/StringUTF16", name := "checkIndex", desc := "(I[B)V" } : Jvm.MethodName) prog_36_method_91_code (2 : Nat) (Option.none : Option Jvm.ClassFile.FieldType)) ∈ wsG := wsG_of (wsT4_in 48 rfl) rfl
theorem w_782 : (Jvm.Cond.methodLink "java/lang/StringUTF16" (48 : Nat) ({ cls := "java/lang/StringUTF16", name := "length", desc := "([B)I" } : Jvm.MethodName)) ∈ wsG := wsG_of (wsT4_in 49 rfl) rfl
theorem w_783 : (Jvm.Cond.static ({ cls := "java/lang/StringUTF16", name := "length", desc := "([B)I" } : Jvm.MethodName)) ∈ wsG := wsG_of (wsT4_in 50 rfl) rfl
theorem w_784 : (Jvm.Cond.code ({ cls := "java/lang/StringUTF16", name := "length", desc := "([B)I" } : Jvm.MethodName) prog_36_method_6_code (1 : Nat) (Option.some Jvm.ClassFile.FieldType.int)) ∈ wsG := wsG_of (wsT4_in 51 rfl) rfl
theorem w_785 : (Jvm.Cond.methodLink "java/lang/StringUTF16" (414 : Nat) ({ cls := "java/lang/String", name := "checkIndex", desc := "(II)V" } : Jvm.MethodName)) ∈ wsG := wsG_of (wsT4_in 52 rfl) rfl
theorem w_786 : (Jvm.Cond.methodLink "java/lang/StringUTF16" (71 : Nat) ({ cls := "java/lang/StringUTF16", name := "getChar", desc := "([BI)C" } : Jvm.MethodName)) ∈ wsG := wsG_of (wsT4_in 53 rfl) rfl
theorem w_787 : (Jvm.Cond.static ({ cls := "java/lang/StringUTF16", name := "getChar", desc := "([BI)C" } : Jvm.MethodName)) ∈ wsG := wsG_of (wsT4_in 54 rfl) rfl
theorem w_788 : (Jvm.Cond.code ({ cls := "java/lang/StringUTF16", name := "getChar", desc := "([BI)C" } : Jvm.MethodName) prog_36_method_5_code (2 : Nat) (Option.some Jvm.ClassFile.FieldType.char)) ∈ wsG := wsG_of (wsT4_in 55 rfl) rfl
theorem w_789 : (Jvm.Cond.fieldLink "java/lang/StringUTF16" (44 : Nat) "java/lang/StringUTF16" "$assertionsDisabled" "Z") ∈ wsG := wsG_of (wsT4_in 56 rfl) rfl
theorem w_791 : (Jvm.Cond.fieldLink "java/lang/StringUTF16" (59 : Nat) "java/lang/StringUTF16" "HI_BYTE_SHIFT" "I") ∈ wsG := wsG_of (wsT4_in 58 rfl) rfl
theorem w_793 : (Jvm.Cond.fieldLink "java/lang/StringUTF16" (63 : Nat) "java/lang/StringUTF16" "LO_BYTE_SHIFT" "I") ∈ wsG := wsG_of (wsT4_in 60 rfl) rfl
theorem w_797 : (Jvm.Cond.methodLink "MapHall" (294 : Nat) ({ cls := "MapHall$Script", name := "empty", desc := "()V" } : Jvm.MethodName)) ∈ wsG := wsG_of (wsT4_in 64 rfl) rfl
theorem w_798 : (Jvm.Cond.instanceMethod ({ cls := "MapHall$Script", name := "empty", desc := "()V" } : Jvm.MethodName)) ∈ wsG := wsG_of (wsT4_in 65 rfl) rfl
theorem w_799 : (Jvm.Cond.selects "MapHall$Script" ({ cls := "MapHall$Script", name := "empty", desc := "()V" } : Jvm.MethodName) ({ cls := "MapHall$Script", name := "empty", desc := "()V" } : Jvm.MethodName)) ∈ wsG := wsG_of (wsT4_in 66 rfl) rfl
theorem w_800 : (Jvm.Cond.code ({ cls := "MapHall$Script", name := "empty", desc := "()V" } : Jvm.MethodName) prog_8_method_4_code (1 : Nat) (Option.none : Option Jvm.ClassFile.FieldType)) ∈ wsG := wsG_of (wsT4_in 67 rfl) rfl
theorem w_802 : (Jvm.Cond.methodLink "MapHall" (299 : Nat) ({ cls := "MapHall", name := "carryOutAll", desc := "()I" } : Jvm.MethodName)) ∈ wsG := wsG_of (wsT4_in 69 rfl) rfl
theorem w_804 : (Jvm.Cond.instanceMethod ({ cls := "MapHall", name := "carryOutAll", desc := "()I" } : Jvm.MethodName)) ∈ wsG := wsG_of (wsT4_in 71 rfl) rfl
theorem w_805 : (Jvm.Cond.code ({ cls := "MapHall", name := "carryOutAll", desc := "()I" } : Jvm.MethodName) prog_1_method_63_code (2 : Nat) (Option.some Jvm.ClassFile.FieldType.int)) ∈ wsG := wsG_of (wsT4_in 72 rfl) rfl
theorem w_806 : (Jvm.Cond.methodLink "MapHall" (383 : Nat) ({ cls := "MapHall", name := "answerOfCommand", desc := "(I)I" } : Jvm.MethodName)) ∈ wsG := wsG_of (wsT4_in 73 rfl) rfl
theorem w_808 : (Jvm.Cond.instanceMethod ({ cls := "MapHall", name := "answerOfCommand", desc := "(I)I" } : Jvm.MethodName)) ∈ wsG := wsG_of (wsT4_in 75 rfl) rfl
theorem w_809 : (Jvm.Cond.code ({ cls := "MapHall", name := "answerOfCommand", desc := "(I)I" } : Jvm.MethodName) prog_1_method_64_code (5 : Nat) (Option.some Jvm.ClassFile.FieldType.int)) ∈ wsG := wsG_of (wsT4_in 76 rfl) rfl
theorem w_810 : (Jvm.Cond.methodLink "MapHall" (386 : Nat) ({ cls := "MapHall$Script", name := "numberIn", desc := "(II)I" } : Jvm.MethodName)) ∈ wsG := wsG_of (wsT4_in 77 rfl) rfl
theorem w_811 : (Jvm.Cond.instanceMethod ({ cls := "MapHall$Script", name := "numberIn", desc := "(II)I" } : Jvm.MethodName)) ∈ wsG := wsG_of (wsT4_in 78 rfl) rfl
theorem w_812 : (Jvm.Cond.selects "MapHall$Script" ({ cls := "MapHall$Script", name := "numberIn", desc := "(II)I" } : Jvm.MethodName) ({ cls := "MapHall$Script", name := "numberIn", desc := "(II)I" } : Jvm.MethodName)) ∈ wsG := wsG_of (wsT4_in 79 rfl) rfl
theorem w_813 : (Jvm.Cond.code ({ cls := "MapHall$Script", name := "numberIn", desc := "(II)I" } : Jvm.MethodName) prog_8_method_10_code (3 : Nat) (Option.some Jvm.ClassFile.FieldType.int)) ∈ wsG := wsG_of (wsT4_in 80 rfl) rfl
theorem w_814 : (Jvm.Cond.methodLink "MapHall$Script" (58 : Nat) ({ cls := "MapHall$Script", name := "signIn", desc := "(II)C" } : Jvm.MethodName)) ∈ wsG := wsG_of (wsT4_in 81 rfl) rfl
theorem w_815 : (Jvm.Cond.instanceMethod ({ cls := "MapHall$Script", name := "signIn", desc := "(II)C" } : Jvm.MethodName)) ∈ wsG := wsG_of (wsT4_in 82 rfl) rfl
theorem w_816 : (Jvm.Cond.selects "MapHall$Script" ({ cls := "MapHall$Script", name := "signIn", desc := "(II)C" } : Jvm.MethodName) ({ cls := "MapHall$Script", name := "signIn", desc := "(II)C" } : Jvm.MethodName)) ∈ wsG := wsG_of (wsT4_in 83 rfl) rfl
theorem w_817 : (Jvm.Cond.code ({ cls := "MapHall$Script", name := "signIn", desc := "(II)C" } : Jvm.MethodName) prog_8_method_9_code (4 : Nat) (Option.some Jvm.ClassFile.FieldType.char)) ∈ wsG := wsG_of (wsT4_in 84 rfl) rfl
theorem w_818 : (Jvm.Cond.methodLink "MapHall$Script" (54 : Nat) ({ cls := "MapHall$Form", name := "placeOfValue", desc := "(I)I" } : Jvm.MethodName)) ∈ wsG := wsG_of (wsT4_in 85 rfl) rfl
theorem w_819 : (Jvm.Cond.instanceMethod ({ cls := "MapHall$Form", name := "placeOfValue", desc := "(I)I" } : Jvm.MethodName)) ∈ wsG := wsG_of (wsT4_in 86 rfl) rfl
theorem w_820 : (Jvm.Cond.selects "MapHall$Form" ({ cls := "MapHall$Form", name := "placeOfValue", desc := "(I)I" } : Jvm.MethodName) ({ cls := "MapHall$Form", name := "placeOfValue", desc := "(I)I" } : Jvm.MethodName)) ∈ wsG := wsG_of (wsT4_in 87 rfl) rfl
theorem w_821 : (Jvm.Cond.code ({ cls := "MapHall$Form", name := "placeOfValue", desc := "(I)I" } : Jvm.MethodName) prog_3_method_6_code (4 : Nat) (Option.some Jvm.ClassFile.FieldType.int)) ∈ wsG := wsG_of (wsT4_in 88 rfl) rfl
theorem w_822 : (Jvm.Cond.methodLink "MapHall$Form" (73 : Nat) ({ cls := "MapHall$Form", name := "isValue", desc := "(C)Z" } : Jvm.MethodName)) ∈ wsG := wsG_of (wsT4_in 89 rfl) rfl
theorem w_823 : (Jvm.Cond.static ({ cls := "MapHall$Form", name := "isValue", desc := "(C)Z" } : Jvm.MethodName)) ∈ wsG := wsG_of (wsT4_in 90 rfl) rfl
theorem w_824 : (Jvm.Cond.code ({ cls := "MapHall$Form", name := "isValue", desc := "(C)Z" } : Jvm.MethodName) prog_3_method_7_code (1 : Nat) (Option.some Jvm.ClassFile.FieldType.boolean)) ∈ wsG := wsG_of (wsT4_in 91 rfl) rfl
theorem w_825 : (Jvm.Cond.fieldLink "MapHall" (389 : Nat) "MapHall$1" "$SwitchMap$MapHall$Form" "[I") ∈ wsG := wsG_of (wsT4_in 92 rfl) rfl
theorem w_827 : (Jvm.Cond.fieldLink "MapHall" (394 : Nat) "MapHall" "FORMS" "[LMapHall$Form;") ∈ wsG := wsG_of (wsT4_in 94 rfl) rfl
theorem w_828 : (Jvm.Cond.methodLink "MapHall" (401 : Nat) ({ cls := "MapHall$Form", name := "ordinal", desc := "()I" } : Jvm.MethodName)) ∈ wsG := wsG_of (wsT4_in 95 rfl) rfl
theorem w_831 : (Jvm.Cond.selects "MapHall$Form" ({ cls := "MapHall$Form", name := "ordinal", desc := "()I" } : Jvm.MethodName) ({ cls := "java/lang/Enum", name := "ordinal", desc := "()I" } : Jvm.MethodName)) ∈ wsG := wsG_of (wsT4_in 98 rfl) rfl
theorem w_832 : (Jvm.Cond.instanceMethod ({ cls := "java/lang/Enum", name := "ordinal", desc := "()I" } : Jvm.MethodName)) ∈ wsG := wsG_of (wsT4_in 99 rfl) rfl
theorem w_833 : (Jvm.Cond.code ({ cls := "java/lang/Enum", name := "ordinal", desc := "()I" } : Jvm.MethodName) prog_23_method_2_code (1 : Nat) (Option.some Jvm.ClassFile.FieldType.int)) ∈ wsG := wsG_of (wsT4_in 100 rfl) rfl
theorem w_834 : (Jvm.Cond.methodLink "MapHall" (406 : Nat) ({ cls := "MapHall$Script", name := "signIn", desc := "(II)C" } : Jvm.MethodName)) ∈ wsG := wsG_of (wsT4_in 101 rfl) rfl
theorem w_835 : (Jvm.Cond.methodLink "MapHall" (302 : Nat) ({ cls := "MapHall$History", name := "returnToPrepared", desc := "(LMapHall$State;)V" } : Jvm.MethodName)) ∈ wsG := wsG_of (wsT4_in 102 rfl) rfl
theorem w_836 : (Jvm.Cond.instanceMethod ({ cls := "MapHall$History", name := "returnToPrepared", desc := "(LMapHall$State;)V" } : Jvm.MethodName)) ∈ wsG := wsG_of (wsT4_in 103 rfl) rfl
theorem w_837 : (Jvm.Cond.selects "MapHall$History" ({ cls := "MapHall$History", name := "returnToPrepared", desc := "(LMapHall$State;)V" } : Jvm.MethodName) ({ cls := "MapHall$History", name := "returnToPrepared", desc := "(LMapHall$State;)V" } : Jvm.MethodName)) ∈ wsG := wsG_of (wsT4_in 104 rfl) rfl
theorem w_838 : (Jvm.Cond.code ({ cls := "MapHall$History", name := "returnToPrepared", desc := "(LMapHall$State;)V" } : Jvm.MethodName) prog_5_method_4_code (2 : Nat) (Option.none : Option Jvm.ClassFile.FieldType)) ∈ wsG := wsG_of (wsT4_in 105 rfl) rfl
theorem w_840 : (Jvm.Cond.methodLink "MapHallLaw" (332 : Nat) ({ cls := "MapHallLaw", name := "errorPosition", desc := "(LMapHall;)I" } : Jvm.MethodName)) ∈ wsG := wsG_of (wsT4_in 107 rfl) rfl
theorem w_841 : (Jvm.Cond.static ({ cls := "MapHallLaw", name := "errorPosition", desc := "(LMapHall;)I" } : Jvm.MethodName)) ∈ wsG := wsG_of (wsT4_in 108 rfl) rfl
theorem w_842 : (Jvm.Cond.codeWith ({ cls := "MapHallLaw", name := "errorPosition", desc := "(LMapHall;)I" } : Jvm.MethodName) method_36_code (2 : Nat) (Option.some Jvm.ClassFile.FieldType.int) [((0 : Nat), (4 : Nat), (5 : Nat), (42 : Nat))]) ∈ wsG := wsG_of (wsT4_in 109 rfl) rfl
theorem w_843 : (Jvm.Cond.methodLink "MapHallLaw" (132 : Nat) ({ cls := "MapHall", name := "errorPosition", desc := "()I" } : Jvm.MethodName)) ∈ wsG := wsG_of (wsT4_in 110 rfl) rfl
theorem w_844 : (Jvm.Cond.instanceMethod ({ cls := "MapHall", name := "errorPosition", desc := "()I" } : Jvm.MethodName)) ∈ wsG := wsG_of (wsT4_in 111 rfl) rfl
theorem w_845 : (Jvm.Cond.selects "MapHall" ({ cls := "MapHall", name := "errorPosition", desc := "()I" } : Jvm.MethodName) ({ cls := "MapHall", name := "errorPosition", desc := "()I" } : Jvm.MethodName)) ∈ wsG := wsG_of (wsT4_in 112 rfl) rfl
theorem w_846 : (Jvm.Cond.code ({ cls := "MapHall", name := "errorPosition", desc := "()I" } : Jvm.MethodName) prog_1_method_46_code (1 : Nat) (Option.some Jvm.ClassFile.FieldType.int)) ∈ wsG := wsG_of (wsT4_in 113 rfl) rfl
theorem w_848 : (Jvm.Cond.methodLink "MapHallLaw" (341 : Nat) ({ cls := "MapHallLaw", name := "undo", desc := "(LMapHall;)I" } : Jvm.MethodName)) ∈ wsG := wsG_of (wsT4_in 115 rfl) rfl
theorem w_849 : (Jvm.Cond.static ({ cls := "MapHallLaw", name := "undo", desc := "(LMapHall;)I" } : Jvm.MethodName)) ∈ wsG := wsG_of (wsT4_in 116 rfl) rfl
theorem w_850 : (Jvm.Cond.codeWith ({ cls := "MapHallLaw", name := "undo", desc := "(LMapHall;)I" } : Jvm.MethodName) method_40_code (2 : Nat) (Option.some Jvm.ClassFile.FieldType.int) [((0 : Nat), (4 : Nat), (5 : Nat), (15 : Nat))]) ∈ wsG := wsG_of (wsT4_in 117 rfl) rfl
theorem w_851 : (Jvm.Cond.methodLink "MapHallLaw" (144 : Nat) ({ cls := "MapHall", name := "undo", desc := "()I" } : Jvm.MethodName)) ∈ wsG := wsG_of (wsT4_in 118 rfl) rfl
theorem w_852 : (Jvm.Cond.instanceMethod ({ cls := "MapHall", name := "undo", desc := "()I" } : Jvm.MethodName)) ∈ wsG := wsG_of (wsT4_in 119 rfl) rfl
theorem w_853 : (Jvm.Cond.selects "MapHall" ({ cls := "MapHall", name := "undo", desc := "()I" } : Jvm.MethodName) ({ cls := "MapHall", name := "undo", desc := "()I" } : Jvm.MethodName)) ∈ wsG := wsG_of (wsT4_in 120 rfl) rfl
theorem w_854 : (Jvm.Cond.code ({ cls := "MapHall", name := "undo", desc := "()I" } : Jvm.MethodName) prog_1_method_52_code (1 : Nat) (Option.some Jvm.ClassFile.FieldType.int)) ∈ wsG := wsG_of (wsT4_in 121 rfl) rfl
theorem w_856 : (Jvm.Cond.methodLink "MapHall" (338 : Nat) ({ cls := "MapHall$History", name := "stepBack", desc := "(LMapHall$State;)V" } : Jvm.MethodName)) ∈ wsG := wsG_of (wsT4_in 123 rfl) rfl
theorem w_857 : (Jvm.Cond.instanceMethod ({ cls := "MapHall$History", name := "stepBack", desc := "(LMapHall$State;)V" } : Jvm.MethodName)) ∈ wsG := wsG_of (wsT4_in 124 rfl) rfl
theorem w_858 : (Jvm.Cond.selects "MapHall$History" ({ cls := "MapHall$History", name := "stepBack", desc := "(LMapHall$State;)V" } : Jvm.MethodName) ({ cls := "MapHall$History", name := "stepBack", desc := "(LMapHall$State;)V" } : Jvm.MethodName)) ∈ wsG := wsG_of (wsT4_in 125 rfl) rfl
theorem w_859 : (Jvm.Cond.code ({ cls := "MapHall$History", name := "stepBack", desc := "(LMapHall$State;)V" } : Jvm.MethodName) prog_5_method_5_code (2 : Nat) (Option.none : Option Jvm.ClassFile.FieldType)) ∈ wsG := wsG_of (wsT4_in 126 rfl) rfl
theorem w_860 : (Jvm.Cond.methodLink "MapHallLaw" (343 : Nat) ({ cls := "MapHallLaw", name := "restore", desc := "(LMapHall;)I" } : Jvm.MethodName)) ∈ wsG := wsG_of (wsT4_in 127 rfl) rfl
theorem w_861 : (Jvm.Cond.static ({ cls := "MapHallLaw", name := "restore", desc := "(LMapHall;)I" } : Jvm.MethodName)) ∈ wsG := wsG_of (wsT4_in 128 rfl) rfl
theorem w_862 : (Jvm.Cond.codeWith ({ cls := "MapHallLaw", name := "restore", desc := "(LMapHall;)I" } : Jvm.MethodName) method_41_code (2 : Nat) (Option.some Jvm.ClassFile.FieldType.int) [((0 : Nat), (4 : Nat), (5 : Nat), (15 : Nat))]) ∈ wsG := wsG_of (wsT4_in 129 rfl) rfl
theorem w_863 : (Jvm.Cond.methodLink "MapHallLaw" (147 : Nat) ({ cls := "MapHall", name := "restore", desc := "()I" } : Jvm.MethodName)) ∈ wsG := wsG_of (wsT4_in 130 rfl) rfl
theorem w_864 : (Jvm.Cond.instanceMethod ({ cls := "MapHall", name := "restore", desc := "()I" } : Jvm.MethodName)) ∈ wsG := wsG_of (wsT4_in 131 rfl) rfl
theorem w_865 : (Jvm.Cond.selects "MapHall" ({ cls := "MapHall", name := "restore", desc := "()I" } : Jvm.MethodName) ({ cls := "MapHall", name := "restore", desc := "()I" } : Jvm.MethodName)) ∈ wsG := wsG_of (wsT4_in 132 rfl) rfl
theorem w_866 : (Jvm.Cond.code ({ cls := "MapHall", name := "restore", desc := "()I" } : Jvm.MethodName) prog_1_method_54_code (1 : Nat) (Option.some Jvm.ClassFile.FieldType.int)) ∈ wsG := wsG_of (wsT4_in 133 rfl) rfl
theorem w_868 : (Jvm.Cond.methodLink "MapHall" (349 : Nat) ({ cls := "MapHall$History", name := "forget", desc := "()V" } : Jvm.MethodName)) ∈ wsG := wsG_of (wsT4_in 135 rfl) rfl
theorem w_869 : (Jvm.Cond.instanceMethod ({ cls := "MapHall$History", name := "forget", desc := "()V" } : Jvm.MethodName)) ∈ wsG := wsG_of (wsT4_in 136 rfl) rfl
theorem w_870 : (Jvm.Cond.selects "MapHall$History" ({ cls := "MapHall$History", name := "forget", desc := "()V" } : Jvm.MethodName) ({ cls := "MapHall$History", name := "forget", desc := "()V" } : Jvm.MethodName)) ∈ wsG := wsG_of (wsT4_in 137 rfl) rfl
theorem w_871 : (Jvm.Cond.code ({ cls := "MapHall$History", name := "forget", desc := "()V" } : Jvm.MethodName) prog_5_method_6_code (1 : Nat) (Option.none : Option Jvm.ClassFile.FieldType)) ∈ wsG := wsG_of (wsT4_in 138 rfl) rfl
theorem w_872 : (Jvm.Cond.methodLink "MapHallLaw" (348 : Nat) ({ cls := "MapHallLaw", name := "makes", desc := "(LMapHall;[I)Z" } : Jvm.MethodName)) ∈ wsG := wsG_of (wsT4_in 139 rfl) rfl
theorem w_873 : (Jvm.Cond.static ({ cls := "MapHallLaw", name := "makes", desc := "(LMapHall;[I)Z" } : Jvm.MethodName)) ∈ wsG := wsG_of (wsT4_in 140 rfl) rfl
theorem w_874 : (Jvm.Cond.code ({ cls := "MapHallLaw", name := "makes", desc := "(LMapHall;[I)Z" } : Jvm.MethodName) method_44_code (7 : Nat) (Option.some Jvm.ClassFile.FieldType.boolean)) ∈ wsG := wsG_of (wsT4_in 141 rfl) rfl
theorem w_875 : (Jvm.Cond.methodLink "MapHallLaw" (174 : Nat) ({ cls := "MapHallLaw", name := "some", desc := "(II)I" } : Jvm.MethodName)) ∈ wsG := wsG_of (wsT4_in 142 rfl) rfl
theorem w_876 : (Jvm.Cond.static ({ cls := "MapHallLaw", name := "some", desc := "(II)I" } : Jvm.MethodName)) ∈ wsG := wsG_of (wsT4_in 143 rfl) rfl
theorem w_877 : (Jvm.Cond.code ({ cls := "MapHallLaw", name := "some", desc := "(II)I" } : Jvm.MethodName) method_3_code (3 : Nat) (Option.some Jvm.ClassFile.FieldType.int)) ∈ wsG := wsG_of (wsT4_in 144 rfl) rfl
theorem w_879 : (Jvm.Cond.methodLink "MapHallLaw" (155 : Nat) ({ cls := "java/lang/String", name := "charAt", desc := "(I)C" } : Jvm.MethodName)) ∈ wsG := wsG_of (wsT4_in 146 rfl) rfl
theorem w_880 : (Jvm.Cond.methodLink "MapHallLaw" (284 : Nat) ({ cls := "MapHallLaw", name := "asks", desc := "(LMapHall;)J" } : Jvm.MethodName)) ∈ wsG := wsG_of (wsT4_in 147 rfl) rfl
theorem w_881 : (Jvm.Cond.static ({ cls := "MapHallLaw", name := "asks", desc := "(LMapHall;)J" } : Jvm.MethodName)) ∈ wsG := wsG_of (wsT4_in 148 rfl) rfl
theorem w_882 : (Jvm.Cond.code ({ cls := "MapHallLaw", name := "asks", desc := "(LMapHall;)J" } : Jvm.MethodName) method_45_code (7 : Nat) (Option.some Jvm.ClassFile.FieldType.long)) ∈ wsG := wsG_of (wsT4_in 149 rfl) rfl
theorem w_883 : (Jvm.Cond.constantLong "MapHallLaw" (193 : Nat) (31 : Int64)) ∈ wsG := wsG_of (wsT4_in 150 rfl) rfl
theorem w_884 : (Jvm.Cond.methodLink "MapHallLaw" (195 : Nat) ({ cls := "MapHallLaw", name := "meanWear", desc := "(LMapHall;)D" } : Jvm.MethodName)) ∈ wsG := wsG_of (wsT4_in 151 rfl) rfl
theorem w_885 : (Jvm.Cond.static ({ cls := "MapHallLaw", name := "meanWear", desc := "(LMapHall;)D" } : Jvm.MethodName)) ∈ wsG := wsG_of (wsT4_in 152 rfl) rfl
theorem w_886 : (Jvm.Cond.codeWith ({ cls := "MapHallLaw", name := "meanWear", desc := "(LMapHall;)D" } : Jvm.MethodName) method_33_code (2 : Nat) (Option.some Jvm.ClassFile.FieldType.double) [((0 : Nat), (4 : Nat), (5 : Nat), (121 : Nat))]) ∈ wsG := wsG_of (wsT4_in 153 rfl) rfl
theorem w_887 : (Jvm.Cond.classLink "MapHallLaw" (121 : Nat) "java/lang/ArithmeticException") ∈ wsG := wsG_of (wsT4_in 154 rfl) rfl
theorem w_888 : (Jvm.Cond.instantiable "java/lang/ArithmeticException" (6 : Nat)) ∈ wsG := wsG_of (wsT4_in 155 rfl) rfl
theorem w_889 : (Jvm.Cond.instanceMethod ({ cls := "java/lang/ArithmeticException", name := "<init>", desc := "(Ljava/lang/String;)V" } : Jvm.MethodName)) ∈ wsG := wsG_of (wsT4_in 156 rfl) rfl
theorem w_890 : (Jvm.Cond.code ({ cls := "java/lang/ArithmeticException", name := "<init>", desc := "(Ljava/lang/String;)V" } : Jvm.MethodName) prog_17_method_2_code (2 : Nat) (Option.none : Option Jvm.ClassFile.FieldType)) ∈ wsG := wsG_of (wsT4_in 157 rfl) rfl
theorem w_891 : (Jvm.Cond.methodLink "java/lang/ArithmeticException" (7 : Nat) ({ cls := "java/lang/RuntimeException", name := "<init>", desc := "(Ljava/lang/String;)V" } : Jvm.MethodName)) ∈ wsG := wsG_of (wsT4_in 158 rfl) rfl
theorem w_892 : (Jvm.Cond.lays "java/lang/ArithmeticException" "java/lang/Throwable" "backtrace" "Ljava/lang/Object;") ∈ wsG := wsG_of (wsT4_in 159 rfl) rfl
theorem w_893 : (Jvm.Cond.lays "java/lang/ArithmeticException" "java/lang/Throwable" "detailMessage" "Ljava/lang/String;") ∈ wsG := wsG_of (wsT4_in 160 rfl) rfl
theorem w_894 : (Jvm.Cond.lays "java/lang/ArithmeticException" "java/lang/Throwable" "cause" "Ljava/lang/Throwable;") ∈ wsG := wsG_of (wsT4_in 161 rfl) rfl
theorem w_895 : (Jvm.Cond.lays "java/lang/ArithmeticException" "java/lang/Throwable" "stackTrace" "[Ljava/lang/StackTraceElement;") ∈ wsG := wsG_of (wsT4_in 162 rfl) rfl
theorem w_896 : (Jvm.Cond.lays "java/lang/ArithmeticException" "java/lang/Throwable" "depth" "I") ∈ wsG := wsG_of (wsT4_in 163 rfl) rfl
theorem w_897 : (Jvm.Cond.lays "java/lang/ArithmeticException" "java/lang/Throwable" "suppressedExceptions" "Ljava/util/List;") ∈ wsG := wsG_of (wsT4_in 164 rfl) rfl
theorem w_900 : (Jvm.Cond.selects "java/lang/ArithmeticException" ({ cls := "java/lang/Throwable", name := "fillInStackTrace", desc := "(I)Ljava/lang/Throwable;" } : Jvm.MethodName) ({ cls := "java/lang/Throwable", name := "fillInStackTrace", desc := "(I)Ljava/lang/Throwable;" } : Jvm.MethodName)) ∈ wsG := wsG_of (wsT4_in 167 rfl) rfl
theorem w_901 : (Jvm.Cond.methodLink "MapHallLaw" (117 : Nat) ({ cls := "MapHall", name := "meanWear", desc := "()D" } : Jvm.MethodName)) ∈ wsG := wsG_of (wsT4_in 168 rfl) rfl
theorem w_902 : (Jvm.Cond.instanceMethod ({ cls := "MapHall", name := "meanWear", desc := "()D" } : Jvm.MethodName)) ∈ wsG := wsG_of (wsT4_in 169 rfl) rfl
theorem w_903 : (Jvm.Cond.selects "MapHall" ({ cls := "MapHall", name := "meanWear", desc := "()D" } : Jvm.MethodName) ({ cls := "MapHall", name := "meanWear", desc := "()D" } : Jvm.MethodName)) ∈ wsG := wsG_of (wsT4_in 170 rfl) rfl
theorem w_904 : (Jvm.Cond.code ({ cls := "MapHall", name := "meanWear", desc := "()D" } : Jvm.MethodName) prog_1_method_41_code (1 : Nat) (Option.some Jvm.ClassFile.FieldType.double)) ∈ wsG := wsG_of (wsT4_in 171 rfl) rfl
theorem w_905 : (Jvm.Cond.classLink "MapHall" (264 : Nat) "java/lang/ArithmeticException") ∈ wsG := wsG_of (wsT4_in 172 rfl) rfl
theorem w_907 : (Jvm.Cond.methodLink "MapHall" (268 : Nat) ({ cls := "java/lang/ArithmeticException", name := "<init>", desc := "(Ljava/lang/String;)V" } : Jvm.MethodName)) ∈ wsG := wsG_of (wsT4_in 174 rfl) rfl
theorem w_908 : (Jvm.Cond.methodLink "MapHall" (269 : Nat) ({ cls := "MapHall$State", name := "sumOfWear", desc := "()I" } : Jvm.MethodName)) ∈ wsG := wsG_of (wsT4_in 175 rfl) rfl
theorem w_909 : (Jvm.Cond.instanceMethod ({ cls := "MapHall$State", name := "sumOfWear", desc := "()I" } : Jvm.MethodName)) ∈ wsG := wsG_of (wsT4_in 176 rfl) rfl
theorem w_910 : (Jvm.Cond.selects "MapHall$State" ({ cls := "MapHall$State", name := "sumOfWear", desc := "()I" } : Jvm.MethodName) ({ cls := "MapHall$State", name := "sumOfWear", desc := "()I" } : Jvm.MethodName)) ∈ wsG := wsG_of (wsT4_in 177 rfl) rfl
theorem w_911 : (Jvm.Cond.code ({ cls := "MapHall$State", name := "sumOfWear", desc := "()I" } : Jvm.MethodName) prog_11_method_25_code (3 : Nat) (Option.some Jvm.ClassFile.FieldType.int)) ∈ wsG := wsG_of (wsT4_in 178 rfl) rfl
theorem w_912 : (Jvm.Cond.constantDouble "MapHallLaw" (123 : Nat) (13875388141788987392 : UInt64)) ∈ wsG := wsG_of (wsT4_in 179 rfl) rfl
theorem w_913 : (Jvm.Cond.methodLink "MapHallLaw" (198 : Nat) ({ cls := "java/lang/Double", name := "doubleToLongBits", desc := "(D)J" } : Jvm.MethodName)) ∈ wsG := wsG_of (wsT4_in 180 rfl) rfl
theorem w_914 : (Jvm.Cond.static ({ cls := "java/lang/Double", name := "doubleToLongBits", desc := "(D)J" } : Jvm.MethodName)) ∈ wsG := wsG_of (wsT4_in 181 rfl) rfl
theorem w_915 : (Jvm.Cond.code ({ cls := "java/lang/Double", name := "doubleToLongBits", desc := "(D)J" } : Jvm.MethodName) prog_22_method_23_code (2 : Nat) (Option.some Jvm.ClassFile.FieldType.long)) ∈ wsG := wsG_of (wsT4_in 182 rfl) rfl
theorem w_916 : (Jvm.Cond.methodLink "java/lang/Double" (122 : Nat) ({ cls := "java/lang/Double", name := "isNaN", desc := "(D)Z" } : Jvm.MethodName)) ∈ wsG := wsG_of (wsT4_in 183 rfl) rfl
theorem w_917 : (Jvm.Cond.static ({ cls := "java/lang/Double", name := "isNaN", desc := "(D)Z" } : Jvm.MethodName)) ∈ wsG := wsG_of (wsT4_in 184 rfl) rfl
theorem w_918 : (Jvm.Cond.code ({ cls := "java/lang/Double", name := "isNaN", desc := "(D)Z" } : Jvm.MethodName) prog_22_method_6_code (2 : Nat) (Option.some Jvm.ClassFile.FieldType.boolean)) ∈ wsG := wsG_of (wsT4_in 185 rfl) rfl
theorem w_919 : (Jvm.Cond.methodLink "java/lang/Double" (134 : Nat) ({ cls := "java/lang/Double", name := "doubleToRawLongBits", desc := "(D)J" } : Jvm.MethodName)) ∈ wsG := wsG_of (wsT4_in 186 rfl) rfl
theorem w_920 : (Jvm.Cond.static ({ cls := "java/lang/Double", name := "doubleToRawLongBits", desc := "(D)J" } : Jvm.MethodName)) ∈ wsG := wsG_of (wsT4_in 187 rfl) rfl
theorem w_921 : (Jvm.Cond.native ({ cls := "java/lang/Double", name := "doubleToRawLongBits", desc := "(D)J" } : Jvm.MethodName)) ∈ wsG := wsG_of (wsT4_in 188 rfl) rfl
theorem w_922 : (Jvm.Cond.constantLong "java/lang/Double" (137 : Nat) (9221120237041090560 : Int64)) ∈ wsG := wsG_of (wsT4_in 189 rfl) rfl
theorem w_923 : (Jvm.Cond.methodLink "MapHallLaw" (204 : Nat) ({ cls := "MapHall", name := "coveredShare", desc := "()F" } : Jvm.MethodName)) ∈ wsG := wsG_of (wsT4_in 190 rfl) rfl
theorem w_924 : (Jvm.Cond.instanceMethod ({ cls := "MapHall", name := "coveredShare", desc := "()F" } : Jvm.MethodName)) ∈ wsG := wsG_of (wsT4_in 191 rfl) rfl
theorem w_925 : (Jvm.Cond.selects "MapHall" ({ cls := "MapHall", name := "coveredShare", desc := "()F" } : Jvm.MethodName) ({ cls := "MapHall", name := "coveredShare", desc := "()F" } : Jvm.MethodName)) ∈ wsG := wsG_of (wsT4_in 192 rfl) rfl
theorem w_926 : (Jvm.Cond.code ({ cls := "MapHall", name := "coveredShare", desc := "()F" } : Jvm.MethodName) prog_1_method_42_code (1 : Nat) (Option.some Jvm.ClassFile.FieldType.float)) ∈ wsG := wsG_of (wsT4_in 193 rfl) rfl
theorem w_927 : (Jvm.Cond.methodLink "MapHall" (172 : Nat) ({ cls := "MapHall$State", name := "countEmpty", desc := "()I" } : Jvm.MethodName)) ∈ wsG := wsG_of (wsT4_in 194 rfl) rfl
theorem w_928 : (Jvm.Cond.instanceMethod ({ cls := "MapHall$State", name := "countEmpty", desc := "()I" } : Jvm.MethodName)) ∈ wsG := wsG_of (wsT4_in 195 rfl) rfl
theorem w_929 : (Jvm.Cond.selects "MapHall$State" ({ cls := "MapHall$State", name := "countEmpty", desc := "()I" } : Jvm.MethodName) ({ cls := "MapHall$State", name := "countEmpty", desc := "()I" } : Jvm.MethodName)) ∈ wsG := wsG_of (wsT4_in 196 rfl) rfl
theorem w_930 : (Jvm.Cond.code ({ cls := "MapHall$State", name := "countEmpty", desc := "()I" } : Jvm.MethodName) prog_11_method_21_code (3 : Nat) (Option.some Jvm.ClassFile.FieldType.int)) ∈ wsG := wsG_of (wsT4_in 197 rfl) rfl
theorem w_931 : (Jvm.Cond.constantFloat "MapHall" (272 : Nat) (1091567616 : UInt32)) ∈ wsG := wsG_of (wsT4_in 198 rfl) rfl
theorem w_932 : (Jvm.Cond.methodLink "MapHallLaw" (208 : Nat) ({ cls := "java/lang/Float", name := "floatToIntBits", desc := "(F)I" } : Jvm.MethodName)) ∈ wsG := wsG_of (wsT4_in 199 rfl) rfl
theorem w_933 : (Jvm.Cond.static ({ cls := "java/lang/Float", name := "floatToIntBits", desc := "(F)I" } : Jvm.MethodName)) ∈ wsG := wsG_of (wsT4_in 200 rfl) rfl
theorem w_934 : (Jvm.Cond.code ({ cls := "java/lang/Float", name := "floatToIntBits", desc := "(F)I" } : Jvm.MethodName) prog_25_method_24_code (1 : Nat) (Option.some Jvm.ClassFile.FieldType.int)) ∈ wsG := wsG_of (wsT4_in 201 rfl) rfl
theorem w_935 : (Jvm.Cond.methodLink "java/lang/Float" (59 : Nat) ({ cls := "java/lang/Float", name := "isNaN", desc := "(F)Z" } : Jvm.MethodName)) ∈ wsG := wsG_of (wsT4_in 202 rfl) rfl
theorem w_936 : (Jvm.Cond.static ({ cls := "java/lang/Float", name := "isNaN", desc := "(F)Z" } : Jvm.MethodName)) ∈ wsG := wsG_of (wsT4_in 203 rfl) rfl
theorem w_937 : (Jvm.Cond.code ({ cls := "java/lang/Float", name := "isNaN", desc := "(F)Z" } : Jvm.MethodName) prog_25_method_6_code (1 : Nat) (Option.some Jvm.ClassFile.FieldType.boolean)) ∈ wsG := wsG_of (wsT4_in 204 rfl) rfl
theorem w_938 : (Jvm.Cond.methodLink "java/lang/Float" (74 : Nat) ({ cls := "java/lang/Float", name := "floatToRawIntBits", desc := "(F)I" } : Jvm.MethodName)) ∈ wsG := wsG_of (wsT4_in 205 rfl) rfl
theorem w_939 : (Jvm.Cond.static ({ cls := "java/lang/Float", name := "floatToRawIntBits", desc := "(F)I" } : Jvm.MethodName)) ∈ wsG := wsG_of (wsT4_in 206 rfl) rfl
theorem w_940 : (Jvm.Cond.native ({ cls := "java/lang/Float", name := "floatToRawIntBits", desc := "(F)I" } : Jvm.MethodName)) ∈ wsG := wsG_of (wsT4_in 207 rfl) rfl
theorem w_941 : (Jvm.Cond.constant "java/lang/Float" (77 : Nat) (2143289344 : Int32)) ∈ wsG := wsG_of (wsT4_in 208 rfl) rfl
theorem w_942 : (Jvm.Cond.methodLink "MapHallLaw" (220 : Nat) ({ cls := "MapHall", name := "usedPaste", desc := "()I" } : Jvm.MethodName)) ∈ wsG := wsG_of (wsT4_in 209 rfl) rfl
theorem w_943 : (Jvm.Cond.instanceMethod ({ cls := "MapHall", name := "usedPaste", desc := "()I" } : Jvm.MethodName)) ∈ wsG := wsG_of (wsT4_in 210 rfl) rfl
theorem w_944 : (Jvm.Cond.selects "MapHall" ({ cls := "MapHall", name := "usedPaste", desc := "()I" } : Jvm.MethodName) ({ cls := "MapHall", name := "usedPaste", desc := "()I" } : Jvm.MethodName)) ∈ wsG := wsG_of (wsT4_in 211 rfl) rfl
theorem w_945 : (Jvm.Cond.code ({ cls := "MapHall", name := "usedPaste", desc := "()I" } : Jvm.MethodName) prog_1_method_40_code (1 : Nat) (Option.some Jvm.ClassFile.FieldType.int)) ∈ wsG := wsG_of (wsT4_in 212 rfl) rfl
theorem w_946 : (Jvm.Cond.methodLink "MapHallLaw" (223 : Nat) ({ cls := "MapHall", name := "points", desc := "()I" } : Jvm.MethodName)) ∈ wsG := wsG_of (wsT4_in 213 rfl) rfl
theorem w_947 : (Jvm.Cond.instanceMethod ({ cls := "MapHall", name := "points", desc := "()I" } : Jvm.MethodName)) ∈ wsG := wsG_of (wsT4_in 214 rfl) rfl
theorem w_948 : (Jvm.Cond.selects "MapHall" ({ cls := "MapHall", name := "points", desc := "()I" } : Jvm.MethodName) ({ cls := "MapHall", name := "points", desc := "()I" } : Jvm.MethodName)) ∈ wsG := wsG_of (wsT4_in 215 rfl) rfl
theorem w_949 : (Jvm.Cond.code ({ cls := "MapHall", name := "points", desc := "()I" } : Jvm.MethodName) prog_1_method_32_code (1 : Nat) (Option.some Jvm.ClassFile.FieldType.int)) ∈ wsG := wsG_of (wsT4_in 216 rfl) rfl
theorem w_950 : (Jvm.Cond.methodLink "MapHall" (229 : Nat) ({ cls := "MapHall$Points", name := "sheetBySheet", desc := "(LMapHall$State;)I" } : Jvm.MethodName)) ∈ wsG := wsG_of (wsT4_in 217 rfl) rfl
theorem w_951 : (Jvm.Cond.static ({ cls := "MapHall$Points", name := "sheetBySheet", desc := "(LMapHall$State;)I" } : Jvm.MethodName)) ∈ wsG := wsG_of (wsT4_in 218 rfl) rfl
theorem w_952 : (Jvm.Cond.code ({ cls := "MapHall$Points", name := "sheetBySheet", desc := "(LMapHall$State;)I" } : Jvm.MethodName) prog_7_method_3_code (3 : Nat) (Option.some Jvm.ClassFile.FieldType.int)) ∈ wsG := wsG_of (wsT4_in 219 rfl) rfl
theorem w_953 : (Jvm.Cond.methodLink "MapHall$Points" (35 : Nat) ({ cls := "MapHall$State", name := "isOccupied", desc := "(I)Z" } : Jvm.MethodName)) ∈ wsG := wsG_of (wsT4_in 220 rfl) rfl
theorem w_954 : (Jvm.Cond.methodLink "MapHall$Points" (39 : Nat) ({ cls := "MapHall$Points", name := "inCell", desc := "(LMapHall$State;I)I" } : Jvm.MethodName)) ∈ wsG := wsG_of (wsT4_in 221 rfl) rfl
theorem w_955 : (Jvm.Cond.static ({ cls := "MapHall$Points", name := "inCell", desc := "(LMapHall$State;I)I" } : Jvm.MethodName)) ∈ wsG := wsG_of (wsT4_in 222 rfl) rfl
theorem w_956 : (Jvm.Cond.code ({ cls := "MapHall$Points", name := "inCell", desc := "(LMapHall$State;I)I" } : Jvm.MethodName) prog_7_method_2_code (3 : Nat) (Option.some Jvm.ClassFile.FieldType.int)) ∈ wsG := wsG_of (wsT4_in 223 rfl) rfl
theorem w_957 : (Jvm.Cond.methodLink "MapHall$Points" (9 : Nat) ({ cls := "MapHall$State", name := "sheetLaidIn", desc := "(I)LMapHall$Sheet;" } : Jvm.MethodName)) ∈ wsG := wsG_of (wsT4_in 224 rfl) rfl
theorem w_958 : (Jvm.Cond.methodLink "MapHall$Points" (23 : Nat) ({ cls := "MapHall$State", name := "countKindBeside", desc := "(IC)I" } : Jvm.MethodName)) ∈ wsG := wsG_of (wsT4_in 225 rfl) rfl
theorem w_959 : (Jvm.Cond.instanceMethod ({ cls := "MapHall$State", name := "countKindBeside", desc := "(IC)I" } : Jvm.MethodName)) ∈ wsG := wsG_of (wsT4_in 226 rfl) rfl
theorem w_960 : (Jvm.Cond.selects "MapHall$State" ({ cls := "MapHall$State", name := "countKindBeside", desc := "(IC)I" } : Jvm.MethodName) ({ cls := "MapHall$State", name := "countKindBeside", desc := "(IC)I" } : Jvm.MethodName)) ∈ wsG := wsG_of (wsT4_in 227 rfl) rfl
theorem w_961 : (Jvm.Cond.code ({ cls := "MapHall$State", name := "countKindBeside", desc := "(IC)I" } : Jvm.MethodName) prog_11_method_18_code (5 : Nat) (Option.some Jvm.ClassFile.FieldType.int)) ∈ wsG := wsG_of (wsT4_in 228 rfl) rfl
theorem w_962 : (Jvm.Cond.methodLink "MapHall$Points" (27 : Nat) ({ cls := "MapHall$State", name := "countBeside", desc := "(I)I" } : Jvm.MethodName)) ∈ wsG := wsG_of (wsT4_in 229 rfl) rfl
theorem w_963 : (Jvm.Cond.methodLink "MapHall$Points" (31 : Nat) ({ cls := "MapHall$Points", name := "ofCity", desc := "(LMapHall$State;I)I" } : Jvm.MethodName)) ∈ wsG := wsG_of (wsT4_in 230 rfl) rfl
theorem w_964 : (Jvm.Cond.static ({ cls := "MapHall$Points", name := "ofCity", desc := "(LMapHall$State;I)I" } : Jvm.MethodName)) ∈ wsG := wsG_of (wsT4_in 231 rfl) rfl
theorem w_965 : (Jvm.Cond.code ({ cls := "MapHall$Points", name := "ofCity", desc := "(LMapHall$State;I)I" } : Jvm.MethodName) prog_7_method_5_code (2 : Nat) (Option.some Jvm.ClassFile.FieldType.int)) ∈ wsG := wsG_of (wsT4_in 232 rfl) rfl
theorem w_966 : (Jvm.Cond.methodLink "MapHall$Points" (50 : Nat) ({ cls := "java/lang/Math", name := "max", desc := "(II)I" } : Jvm.MethodName)) ∈ wsG := wsG_of (wsT4_in 233 rfl) rfl
theorem w_967 : (Jvm.Cond.static ({ cls := "java/lang/Math", name := "max", desc := "(II)I" } : Jvm.MethodName)) ∈ wsG := wsG_of (wsT4_in 234 rfl) rfl
theorem w_968 : (Jvm.Cond.code ({ cls := "java/lang/Math", name := "max", desc := "(II)I" } : Jvm.MethodName) prog_30_method_65_code (2 : Nat) (Option.some Jvm.ClassFile.FieldType.int)) ∈ wsG := wsG_of (wsT4_in 235 rfl) rfl
theorem w_969 : (Jvm.Cond.methodLink "MapHallLaw" (226 : Nat) ({ cls := "MapHall", name := "groups", desc := "()I" } : Jvm.MethodName)) ∈ wsG := wsG_of (wsT4_in 236 rfl) rfl
theorem w_970 : (Jvm.Cond.instanceMethod ({ cls := "MapHall", name := "groups", desc := "()I" } : Jvm.MethodName)) ∈ wsG := wsG_of (wsT4_in 237 rfl) rfl
theorem w_971 : (Jvm.Cond.selects "MapHall" ({ cls := "MapHall", name := "groups", desc := "()I" } : Jvm.MethodName) ({ cls := "MapHall", name := "groups", desc := "()I" } : Jvm.MethodName)) ∈ wsG := wsG_of (wsT4_in 238 rfl) rfl
theorem w_972 : (Jvm.Cond.code ({ cls := "MapHall", name := "groups", desc := "()I" } : Jvm.MethodName) prog_1_method_35_code (1 : Nat) (Option.some Jvm.ClassFile.FieldType.int)) ∈ wsG := wsG_of (wsT4_in 239 rfl) rfl
theorem w_973 : (Jvm.Cond.methodLink "MapHall" (244 : Nat) ({ cls := "MapHall$Groups", name := "countByFilling", desc := "(LMapHall$State;)I" } : Jvm.MethodName)) ∈ wsG := wsG_of (wsT5_in 0 rfl) rfl
theorem w_974 : (Jvm.Cond.static ({ cls := "MapHall$Groups", name := "countByFilling", desc := "(LMapHall$State;)I" } : Jvm.MethodName)) ∈ wsG := wsG_of (wsT5_in 1 rfl) rfl
theorem w_975 : (Jvm.Cond.code ({ cls := "MapHall$Groups", name := "countByFilling", desc := "(LMapHall$State;)I" } : Jvm.MethodName) prog_4_method_5_code (4 : Nat) (Option.some Jvm.ClassFile.FieldType.int)) ∈ wsG := wsG_of (wsT5_in 2 rfl) rfl
theorem w_976 : (Jvm.Cond.methodLink "MapHall$Groups" (32 : Nat) ({ cls := "MapHall$State", name := "isOccupied", desc := "(I)Z" } : Jvm.MethodName)) ∈ wsG := wsG_of (wsT5_in 3 rfl) rfl
theorem w_977 : (Jvm.Cond.methodLink "MapHall$Groups" (19 : Nat) ({ cls := "MapHall$Groups", name := "contains", desc := "(II)Z" } : Jvm.MethodName)) ∈ wsG := wsG_of (wsT5_in 4 rfl) rfl
theorem w_978 : (Jvm.Cond.static ({ cls := "MapHall$Groups", name := "contains", desc := "(II)Z" } : Jvm.MethodName)) ∈ wsG := wsG_of (wsT5_in 5 rfl) rfl
theorem w_979 : (Jvm.Cond.code ({ cls := "MapHall$Groups", name := "contains", desc := "(II)Z" } : Jvm.MethodName) prog_4_method_4_code (2 : Nat) (Option.some Jvm.ClassFile.FieldType.boolean)) ∈ wsG := wsG_of (wsT5_in 6 rfl) rfl
theorem w_980 : (Jvm.Cond.methodLink "MapHall$Groups" (36 : Nat) ({ cls := "MapHall$Groups", name := "cellsConnectedTo", desc := "(LMapHall$State;I)I" } : Jvm.MethodName)) ∈ wsG := wsG_of (wsT5_in 7 rfl) rfl
theorem w_981 : (Jvm.Cond.static ({ cls := "MapHall$Groups", name := "cellsConnectedTo", desc := "(LMapHall$State;I)I" } : Jvm.MethodName)) ∈ wsG := wsG_of (wsT5_in 8 rfl) rfl
theorem w_982 : (Jvm.Cond.code ({ cls := "MapHall$Groups", name := "cellsConnectedTo", desc := "(LMapHall$State;I)I" } : Jvm.MethodName) prog_4_method_2_code (4 : Nat) (Option.some Jvm.ClassFile.FieldType.int)) ∈ wsG := wsG_of (wsT5_in 9 rfl) rfl
theorem w_983 : (Jvm.Cond.methodLink "MapHall$Groups" (15 : Nat) ({ cls := "MapHall$Groups", name := "withNeighbours", desc := "(LMapHall$State;I)I" } : Jvm.MethodName)) ∈ wsG := wsG_of (wsT5_in 10 rfl) rfl
theorem w_984 : (Jvm.Cond.static ({ cls := "MapHall$Groups", name := "withNeighbours", desc := "(LMapHall$State;I)I" } : Jvm.MethodName)) ∈ wsG := wsG_of (wsT5_in 11 rfl) rfl
theorem w_985 : (Jvm.Cond.code ({ cls := "MapHall$Groups", name := "withNeighbours", desc := "(LMapHall$State;I)I" } : Jvm.MethodName) prog_4_method_3_code (5 : Nat) (Option.some Jvm.ClassFile.FieldType.int)) ∈ wsG := wsG_of (wsT5_in 12 rfl) rfl
theorem w_986 : (Jvm.Cond.methodLink "MapHall$Groups" (23 : Nat) ({ cls := "MapHall$State", name := "isOccupiedBeside", desc := "(II)Z" } : Jvm.MethodName)) ∈ wsG := wsG_of (wsT5_in 13 rfl) rfl
theorem w_988 : (Jvm.Cond.methodLink "MapHallLaw" (229 : Nat) ({ cls := "MapHall", name := "matchedBorders", desc := "()I" } : Jvm.MethodName)) ∈ wsG := wsG_of (wsT5_in 15 rfl) rfl
theorem w_989 : (Jvm.Cond.instanceMethod ({ cls := "MapHall", name := "matchedBorders", desc := "()I" } : Jvm.MethodName)) ∈ wsG := wsG_of (wsT5_in 16 rfl) rfl
theorem w_990 : (Jvm.Cond.selects "MapHall" ({ cls := "MapHall", name := "matchedBorders", desc := "()I" } : Jvm.MethodName) ({ cls := "MapHall", name := "matchedBorders", desc := "()I" } : Jvm.MethodName)) ∈ wsG := wsG_of (wsT5_in 17 rfl) rfl
theorem w_991 : (Jvm.Cond.code ({ cls := "MapHall", name := "matchedBorders", desc := "()I" } : Jvm.MethodName) prog_1_method_37_code (1 : Nat) (Option.some Jvm.ClassFile.FieldType.int)) ∈ wsG := wsG_of (wsT5_in 18 rfl) rfl
theorem w_992 : (Jvm.Cond.methodLink "MapHall" (250 : Nat) ({ cls := "MapHall$State", name := "countNeighbourPairs", desc := "()I" } : Jvm.MethodName)) ∈ wsG := wsG_of (wsT5_in 19 rfl) rfl
theorem w_993 : (Jvm.Cond.instanceMethod ({ cls := "MapHall$State", name := "countNeighbourPairs", desc := "()I" } : Jvm.MethodName)) ∈ wsG := wsG_of (wsT5_in 20 rfl) rfl
theorem w_994 : (Jvm.Cond.selects "MapHall$State" ({ cls := "MapHall$State", name := "countNeighbourPairs", desc := "()I" } : Jvm.MethodName) ({ cls := "MapHall$State", name := "countNeighbourPairs", desc := "()I" } : Jvm.MethodName)) ∈ wsG := wsG_of (wsT5_in 21 rfl) rfl
theorem w_995 : (Jvm.Cond.code ({ cls := "MapHall$State", name := "countNeighbourPairs", desc := "()I" } : Jvm.MethodName) prog_11_method_23_code (4 : Nat) (Option.some Jvm.ClassFile.FieldType.int)) ∈ wsG := wsG_of (wsT5_in 22 rfl) rfl
theorem w_996 : (Jvm.Cond.methodLink "MapHallLaw" (232 : Nat) ({ cls := "MapHallLaw", name := "completions", desc := "(LMapHall;)I" } : Jvm.MethodName)) ∈ wsG := wsG_of (wsT5_in 23 rfl) rfl
theorem w_997 : (Jvm.Cond.static ({ cls := "MapHallLaw", name := "completions", desc := "(LMapHall;)I" } : Jvm.MethodName)) ∈ wsG := wsG_of (wsT5_in 24 rfl) rfl
theorem w_998 : (Jvm.Cond.codeWith ({ cls := "MapHallLaw", name := "completions", desc := "(LMapHall;)I" } : Jvm.MethodName) method_25_code (2 : Nat) (Option.some Jvm.ClassFile.FieldType.int) [((0 : Nat), (4 : Nat), (5 : Nat), (33 : Nat))]) ∈ wsG := wsG_of (wsT5_in 25 rfl) rfl
theorem w_999 : (Jvm.Cond.methodLink "MapHallLaw" (91 : Nat) ({ cls := "MapHall", name := "completions", desc := "()I" } : Jvm.MethodName)) ∈ wsG := wsG_of (wsT5_in 26 rfl) rfl
theorem w_1000 : (Jvm.Cond.instanceMethod ({ cls := "MapHall", name := "completions", desc := "()I" } : Jvm.MethodName)) ∈ wsG := wsG_of (wsT5_in 27 rfl) rfl
theorem w_1001 : (Jvm.Cond.selects "MapHall" ({ cls := "MapHall", name := "completions", desc := "()I" } : Jvm.MethodName) ({ cls := "MapHall", name := "completions", desc := "()I" } : Jvm.MethodName)) ∈ wsG := wsG_of (wsT5_in 28 rfl) rfl
theorem w_1002 : (Jvm.Cond.code ({ cls := "MapHall", name := "completions", desc := "()I" } : Jvm.MethodName) prog_1_method_26_code (1 : Nat) (Option.some Jvm.ClassFile.FieldType.int)) ∈ wsG := wsG_of (wsT5_in 29 rfl) rfl
theorem w_1003 : (Jvm.Cond.methodLink "MapHall" (207 : Nat) ({ cls := "MapHall", name := "demandFewEmptyCells", desc := "()V" } : Jvm.MethodName)) ∈ wsG := wsG_of (wsT5_in 30 rfl) rfl
theorem w_1005 : (Jvm.Cond.instanceMethod ({ cls := "MapHall", name := "demandFewEmptyCells", desc := "()V" } : Jvm.MethodName)) ∈ wsG := wsG_of (wsT5_in 32 rfl) rfl
theorem w_1006 : (Jvm.Cond.code ({ cls := "MapHall", name := "demandFewEmptyCells", desc := "()V" } : Jvm.MethodName) prog_1_method_61_code (1 : Nat) (Option.none : Option Jvm.ClassFile.FieldType)) ∈ wsG := wsG_of (wsT5_in 33 rfl) rfl
theorem w_1008 : (Jvm.Cond.methodLink "MapHall" (210 : Nat) ({ cls := "MapHall", name := "waysFrom", desc := "(LMapHall$State;IZ)I" } : Jvm.MethodName)) ∈ wsG := wsG_of (wsT5_in 35 rfl) rfl
theorem w_1009 : (Jvm.Cond.static ({ cls := "MapHall", name := "waysFrom", desc := "(LMapHall$State;IZ)I" } : Jvm.MethodName)) ∈ wsG := wsG_of (wsT5_in 36 rfl) rfl
theorem w_1010 : (Jvm.Cond.code ({ cls := "MapHall", name := "waysFrom", desc := "(LMapHall$State;IZ)I" } : Jvm.MethodName) prog_1_method_65_code (8 : Nat) (Option.some Jvm.ClassFile.FieldType.int)) ∈ wsG := wsG_of (wsT5_in 37 rfl) rfl
theorem w_1011 : (Jvm.Cond.methodLink "MapHall" (200 : Nat) ({ cls := "MapHall$Sheet", name := "canBeLaid", desc := "()Z" } : Jvm.MethodName)) ∈ wsG := wsG_of (wsT5_in 38 rfl) rfl
theorem w_1012 : (Jvm.Cond.methodLink "MapHall" (196 : Nat) ({ cls := "MapHall$State", name := "fits", desc := "(LMapHall$Sheet;II)Z" } : Jvm.MethodName)) ∈ wsG := wsG_of (wsT5_in 39 rfl) rfl
theorem w_1013 : (Jvm.Cond.methodLink "MapHall" (410 : Nat) ({ cls := "MapHall$State", name := "lay", desc := "(III)V" } : Jvm.MethodName)) ∈ wsG := wsG_of (wsT5_in 40 rfl) rfl
theorem w_1014 : (Jvm.Cond.methodLink "MapHall" (414 : Nat) ({ cls := "MapHall$State", name := "lift", desc := "(I)V" } : Jvm.MethodName)) ∈ wsG := wsG_of (wsT5_in 41 rfl) rfl
theorem w_1015 : (Jvm.Cond.methodLink "MapHallLaw" (234 : Nat) ({ cls := "MapHall", name := "writeTable", desc := "()I" } : Jvm.MethodName)) ∈ wsG := wsG_of (wsT5_in 42 rfl) rfl
theorem w_1016 : (Jvm.Cond.instanceMethod ({ cls := "MapHall", name := "writeTable", desc := "()I" } : Jvm.MethodName)) ∈ wsG := wsG_of (wsT5_in 43 rfl) rfl
theorem w_1017 : (Jvm.Cond.selects "MapHall" ({ cls := "MapHall", name := "writeTable", desc := "()I" } : Jvm.MethodName) ({ cls := "MapHall", name := "writeTable", desc := "()I" } : Jvm.MethodName)) ∈ wsG := wsG_of (wsT5_in 44 rfl) rfl
theorem w_1018 : (Jvm.Cond.code ({ cls := "MapHall", name := "writeTable", desc := "()I" } : Jvm.MethodName) prog_1_method_48_code (1 : Nat) (Option.some Jvm.ClassFile.FieldType.int)) ∈ wsG := wsG_of (wsT5_in 45 rfl) rfl
theorem w_1019 : (Jvm.Cond.methodLink "MapHall" (320 : Nat) ({ cls := "MapHall$Output", name := "describeTable", desc := "(LMapHall$State;)V" } : Jvm.MethodName)) ∈ wsG := wsG_of (wsT5_in 46 rfl) rfl
theorem w_1020 : (Jvm.Cond.instanceMethod ({ cls := "MapHall$Output", name := "describeTable", desc := "(LMapHall$State;)V" } : Jvm.MethodName)) ∈ wsG := wsG_of (wsT5_in 47 rfl) rfl
theorem w_1021 : (Jvm.Cond.selects "MapHall$Output" ({ cls := "MapHall$Output", name := "describeTable", desc := "(LMapHall$State;)V" } : Jvm.MethodName) ({ cls := "MapHall$Output", name := "describeTable", desc := "(LMapHall$State;)V" } : Jvm.MethodName)) ∈ wsG := wsG_of (wsT5_in 48 rfl) rfl
theorem w_1022 : (Jvm.Cond.code ({ cls := "MapHall$Output", name := "describeTable", desc := "(LMapHall$State;)V" } : Jvm.MethodName) prog_6_method_2_code (3 : Nat) (Option.none : Option Jvm.ClassFile.FieldType)) ∈ wsG := wsG_of (wsT5_in 49 rfl) rfl
theorem w_1023 : (Jvm.Cond.methodLink "MapHall$Output" (19 : Nat) ({ cls := "MapHall$Output", name := "write", desc := "(C)V" } : Jvm.MethodName)) ∈ wsG := wsG_of (wsT5_in 50 rfl) rfl
theorem w_1025 : (Jvm.Cond.instanceMethod ({ cls := "MapHall$Output", name := "write", desc := "(C)V" } : Jvm.MethodName)) ∈ wsG := wsG_of (wsT5_in 52 rfl) rfl
theorem w_1026 : (Jvm.Cond.code ({ cls := "MapHall$Output", name := "write", desc := "(C)V" } : Jvm.MethodName) prog_6_method_6_code (2 : Nat) (Option.none : Option Jvm.ClassFile.FieldType)) ∈ wsG := wsG_of (wsT5_in 53 rfl) rfl
theorem w_1027 : (Jvm.Cond.methodLink "MapHall$Output" (23 : Nat) ({ cls := "MapHall$State", name := "isOccupied", desc := "(I)Z" } : Jvm.MethodName)) ∈ wsG := wsG_of (wsT5_in 54 rfl) rfl
theorem w_1028 : (Jvm.Cond.methodLink "MapHall$Output" (33 : Nat) ({ cls := "MapHall$Output", name := "writeDigit", desc := "(I)V" } : Jvm.MethodName)) ∈ wsG := wsG_of (wsT5_in 55 rfl) rfl
theorem w_1030 : (Jvm.Cond.instanceMethod ({ cls := "MapHall$Output", name := "writeDigit", desc := "(I)V" } : Jvm.MethodName)) ∈ wsG := wsG_of (wsT5_in 57 rfl) rfl
theorem w_1031 : (Jvm.Cond.code ({ cls := "MapHall$Output", name := "writeDigit", desc := "(I)V" } : Jvm.MethodName) prog_6_method_4_code (2 : Nat) (Option.none : Option Jvm.ClassFile.FieldType)) ∈ wsG := wsG_of (wsT5_in 58 rfl) rfl
theorem w_1032 : (Jvm.Cond.methodLink "MapHall$Output" (37 : Nat) ({ cls := "MapHall$State", name := "sheetLaidIn", desc := "(I)LMapHall$Sheet;" } : Jvm.MethodName)) ∈ wsG := wsG_of (wsT5_in 59 rfl) rfl
theorem w_1033 : (Jvm.Cond.methodLink "MapHall$Output" (46 : Nat) ({ cls := "MapHall$Output", name := "writeTimes", desc := "(CI)V" } : Jvm.MethodName)) ∈ wsG := wsG_of (wsT5_in 60 rfl) rfl
theorem w_1035 : (Jvm.Cond.instanceMethod ({ cls := "MapHall$Output", name := "writeTimes", desc := "(CI)V" } : Jvm.MethodName)) ∈ wsG := wsG_of (wsT5_in 62 rfl) rfl
theorem w_1036 : (Jvm.Cond.code ({ cls := "MapHall$Output", name := "writeTimes", desc := "(CI)V" } : Jvm.MethodName) prog_6_method_5_code (4 : Nat) (Option.none : Option Jvm.ClassFile.FieldType)) ∈ wsG := wsG_of (wsT5_in 63 rfl) rfl
theorem w_1037 : (Jvm.Cond.methodLink "MapHallLaw" (167 : Nat) ({ cls := "MapHallLaw", name := "outputChar", desc := "(LMapHall;I)I" } : Jvm.MethodName)) ∈ wsG := wsG_of (wsT5_in 64 rfl) rfl
theorem w_1038 : (Jvm.Cond.static ({ cls := "MapHallLaw", name := "outputChar", desc := "(LMapHall;I)I" } : Jvm.MethodName)) ∈ wsG := wsG_of (wsT5_in 65 rfl) rfl
theorem w_1039 : (Jvm.Cond.codeWith ({ cls := "MapHallLaw", name := "outputChar", desc := "(LMapHall;I)I" } : Jvm.MethodName) method_39_code (3 : Nat) (Option.some Jvm.ClassFile.FieldType.int) [((0 : Nat), (5 : Nat), (6 : Nat), (21 : Nat))]) ∈ wsG := wsG_of (wsT5_in 66 rfl) rfl
theorem w_1040 : (Jvm.Cond.methodLink "MapHallLaw" (141 : Nat) ({ cls := "MapHall", name := "outputChar", desc := "(I)C" } : Jvm.MethodName)) ∈ wsG := wsG_of (wsT5_in 67 rfl) rfl
theorem w_1041 : (Jvm.Cond.instanceMethod ({ cls := "MapHall", name := "outputChar", desc := "(I)C" } : Jvm.MethodName)) ∈ wsG := wsG_of (wsT5_in 68 rfl) rfl
theorem w_1042 : (Jvm.Cond.selects "MapHall" ({ cls := "MapHall", name := "outputChar", desc := "(I)C" } : Jvm.MethodName) ({ cls := "MapHall", name := "outputChar", desc := "(I)C" } : Jvm.MethodName)) ∈ wsG := wsG_of (wsT5_in 69 rfl) rfl
theorem w_1043 : (Jvm.Cond.code ({ cls := "MapHall", name := "outputChar", desc := "(I)C" } : Jvm.MethodName) prog_1_method_50_code (2 : Nat) (Option.some Jvm.ClassFile.FieldType.char)) ∈ wsG := wsG_of (wsT5_in 70 rfl) rfl
theorem w_1045 : (Jvm.Cond.methodLink "MapHallLaw" (237 : Nat) ({ cls := "MapHallLaw", name := "waysToPut", desc := "(LMapHall;I)I" } : Jvm.MethodName)) ∈ wsG := wsG_of (wsT5_in 72 rfl) rfl
theorem w_1046 : (Jvm.Cond.static ({ cls := "MapHallLaw", name := "waysToPut", desc := "(LMapHall;I)I" } : Jvm.MethodName)) ∈ wsG := wsG_of (wsT5_in 73 rfl) rfl
theorem w_1047 : (Jvm.Cond.codeWith ({ cls := "MapHallLaw", name := "waysToPut", desc := "(LMapHall;I)I" } : Jvm.MethodName) method_24_code (3 : Nat) (Option.some Jvm.ClassFile.FieldType.int) [((0 : Nat), (5 : Nat), (6 : Nat), (21 : Nat))]) ∈ wsG := wsG_of (wsT5_in 74 rfl) rfl
theorem w_1048 : (Jvm.Cond.methodLink "MapHallLaw" (88 : Nat) ({ cls := "MapHall", name := "waysToPut", desc := "(I)I" } : Jvm.MethodName)) ∈ wsG := wsG_of (wsT5_in 75 rfl) rfl
theorem w_1049 : (Jvm.Cond.instanceMethod ({ cls := "MapHall", name := "waysToPut", desc := "(I)I" } : Jvm.MethodName)) ∈ wsG := wsG_of (wsT5_in 76 rfl) rfl
theorem w_1050 : (Jvm.Cond.selects "MapHall" ({ cls := "MapHall", name := "waysToPut", desc := "(I)I" } : Jvm.MethodName) ({ cls := "MapHall", name := "waysToPut", desc := "(I)I" } : Jvm.MethodName)) ∈ wsG := wsG_of (wsT5_in 77 rfl) rfl
theorem w_1051 : (Jvm.Cond.code ({ cls := "MapHall", name := "waysToPut", desc := "(I)I" } : Jvm.MethodName) prog_1_method_25_code (3 : Nat) (Option.some Jvm.ClassFile.FieldType.int)) ∈ wsG := wsG_of (wsT5_in 78 rfl) rfl
theorem w_1052 : (Jvm.Cond.methodLink "MapHall" (203 : Nat) ({ cls := "MapHall$State", name := "countPlaces", desc := "(LMapHall$Sheet;)I" } : Jvm.MethodName)) ∈ wsG := wsG_of (wsT5_in 79 rfl) rfl
theorem w_1053 : (Jvm.Cond.instanceMethod ({ cls := "MapHall$State", name := "countPlaces", desc := "(LMapHall$Sheet;)I" } : Jvm.MethodName)) ∈ wsG := wsG_of (wsT5_in 80 rfl) rfl
theorem w_1054 : (Jvm.Cond.selects "MapHall$State" ({ cls := "MapHall$State", name := "countPlaces", desc := "(LMapHall$Sheet;)I" } : Jvm.MethodName) ({ cls := "MapHall$State", name := "countPlaces", desc := "(LMapHall$Sheet;)I" } : Jvm.MethodName)) ∈ wsG := wsG_of (wsT5_in 81 rfl) rfl
theorem w_1055 : (Jvm.Cond.code ({ cls := "MapHall$State", name := "countPlaces", desc := "(LMapHall$Sheet;)I" } : Jvm.MethodName) prog_11_method_20_code (5 : Nat) (Option.some Jvm.ClassFile.FieldType.int)) ∈ wsG := wsG_of (wsT5_in 82 rfl) rfl
theorem w_1056 : (Jvm.Cond.methodLink "MapHallLaw" (239 : Nat) ({ cls := "MapHallLaw", name := "byWear", desc := "(LMapHall;I)I" } : Jvm.MethodName)) ∈ wsG := wsG_of (wsT5_in 83 rfl) rfl
theorem w_1057 : (Jvm.Cond.static ({ cls := "MapHallLaw", name := "byWear", desc := "(LMapHall;I)I" } : Jvm.MethodName)) ∈ wsG := wsG_of (wsT5_in 84 rfl) rfl
theorem w_1058 : (Jvm.Cond.codeWith ({ cls := "MapHallLaw", name := "byWear", desc := "(LMapHall;I)I" } : Jvm.MethodName) method_32_code (3 : Nat) (Option.some Jvm.ClassFile.FieldType.int) [((0 : Nat), (5 : Nat), (6 : Nat), (42 : Nat))]) ∈ wsG := wsG_of (wsT5_in 85 rfl) rfl
theorem w_1059 : (Jvm.Cond.methodLink "MapHallLaw" (114 : Nat) ({ cls := "MapHall", name := "sheetByWear", desc := "(I)I" } : Jvm.MethodName)) ∈ wsG := wsG_of (wsT5_in 86 rfl) rfl
theorem w_1060 : (Jvm.Cond.instanceMethod ({ cls := "MapHall", name := "sheetByWear", desc := "(I)I" } : Jvm.MethodName)) ∈ wsG := wsG_of (wsT5_in 87 rfl) rfl
theorem w_1061 : (Jvm.Cond.selects "MapHall" ({ cls := "MapHall", name := "sheetByWear", desc := "(I)I" } : Jvm.MethodName) ({ cls := "MapHall", name := "sheetByWear", desc := "(I)I" } : Jvm.MethodName)) ∈ wsG := wsG_of (wsT5_in 88 rfl) rfl
theorem w_1062 : (Jvm.Cond.code ({ cls := "MapHall", name := "sheetByWear", desc := "(I)I" } : Jvm.MethodName) prog_1_method_38_code (2 : Nat) (Option.some Jvm.ClassFile.FieldType.int)) ∈ wsG := wsG_of (wsT5_in 89 rfl) rfl
theorem w_1064 : (Jvm.Cond.methodLink "MapHall" (255 : Nat) ({ cls := "MapHall$State", name := "sheetAtRank", desc := "(I)I" } : Jvm.MethodName)) ∈ wsG := wsG_of (wsT5_in 91 rfl) rfl
theorem w_1065 : (Jvm.Cond.instanceMethod ({ cls := "MapHall$State", name := "sheetAtRank", desc := "(I)I" } : Jvm.MethodName)) ∈ wsG := wsG_of (wsT5_in 92 rfl) rfl
theorem w_1066 : (Jvm.Cond.selects "MapHall$State" ({ cls := "MapHall$State", name := "sheetAtRank", desc := "(I)I" } : Jvm.MethodName) ({ cls := "MapHall$State", name := "sheetAtRank", desc := "(I)I" } : Jvm.MethodName)) ∈ wsG := wsG_of (wsT5_in 93 rfl) rfl
theorem w_1067 : (Jvm.Cond.code ({ cls := "MapHall$State", name := "sheetAtRank", desc := "(I)I" } : Jvm.MethodName) prog_11_method_26_code (3 : Nat) (Option.some Jvm.ClassFile.FieldType.int)) ∈ wsG := wsG_of (wsT5_in 94 rfl) rfl
theorem w_1068 : (Jvm.Cond.methodLink "MapHall$State" (149 : Nat) ({ cls := "MapHall$State", name := "countBefore", desc := "(I)I" } : Jvm.MethodName)) ∈ wsG := wsG_of (wsT5_in 95 rfl) rfl
theorem w_1070 : (Jvm.Cond.instanceMethod ({ cls := "MapHall$State", name := "countBefore", desc := "(I)I" } : Jvm.MethodName)) ∈ wsG := wsG_of (wsT5_in 97 rfl) rfl
theorem w_1071 : (Jvm.Cond.code ({ cls := "MapHall$State", name := "countBefore", desc := "(I)I" } : Jvm.MethodName) prog_11_method_27_code (4 : Nat) (Option.some Jvm.ClassFile.FieldType.int)) ∈ wsG := wsG_of (wsT5_in 98 rfl) rfl
theorem w_1072 : (Jvm.Cond.methodLink "MapHall$State" (152 : Nat) ({ cls := "MapHall$State", name := "comesBefore", desc := "(II)Z" } : Jvm.MethodName)) ∈ wsG := wsG_of (wsT5_in 99 rfl) rfl
theorem w_1074 : (Jvm.Cond.instanceMethod ({ cls := "MapHall$State", name := "comesBefore", desc := "(II)Z" } : Jvm.MethodName)) ∈ wsG := wsG_of (wsT5_in 101 rfl) rfl
theorem w_1075 : (Jvm.Cond.code ({ cls := "MapHall$State", name := "comesBefore", desc := "(II)Z" } : Jvm.MethodName) prog_11_method_28_code (5 : Nat) (Option.some Jvm.ClassFile.FieldType.boolean)) ∈ wsG := wsG_of (wsT5_in 102 rfl) rfl
theorem w_1076 : (Jvm.Cond.methodLink "MapHallLaw" (244 : Nat) ({ cls := "MapHallLaw", name := "foldings", desc := "(LMapHall;I)I" } : Jvm.MethodName)) ∈ wsG := wsG_of (wsT5_in 103 rfl) rfl
theorem w_1077 : (Jvm.Cond.static ({ cls := "MapHallLaw", name := "foldings", desc := "(LMapHall;I)I" } : Jvm.MethodName)) ∈ wsG := wsG_of (wsT5_in 104 rfl) rfl
theorem w_1078 : (Jvm.Cond.codeWith ({ cls := "MapHallLaw", name := "foldings", desc := "(LMapHall;I)I" } : Jvm.MethodName) method_27_code (3 : Nat) (Option.some Jvm.ClassFile.FieldType.int) [((0 : Nat), (5 : Nat), (6 : Nat), (21 : Nat))]) ∈ wsG := wsG_of (wsT5_in 105 rfl) rfl
theorem w_1079 : (Jvm.Cond.methodLink "MapHallLaw" (98 : Nat) ({ cls := "MapHall", name := "foldings", desc := "(I)I" } : Jvm.MethodName)) ∈ wsG := wsG_of (wsT5_in 106 rfl) rfl
theorem w_1080 : (Jvm.Cond.instanceMethod ({ cls := "MapHall", name := "foldings", desc := "(I)I" } : Jvm.MethodName)) ∈ wsG := wsG_of (wsT5_in 107 rfl) rfl
theorem w_1081 : (Jvm.Cond.selects "MapHall" ({ cls := "MapHall", name := "foldings", desc := "(I)I" } : Jvm.MethodName) ({ cls := "MapHall", name := "foldings", desc := "(I)I" } : Jvm.MethodName)) ∈ wsG := wsG_of (wsT5_in 108 rfl) rfl
theorem w_1082 : (Jvm.Cond.code ({ cls := "MapHall", name := "foldings", desc := "(I)I" } : Jvm.MethodName) prog_1_method_28_code (2 : Nat) (Option.some Jvm.ClassFile.FieldType.int)) ∈ wsG := wsG_of (wsT5_in 109 rfl) rfl
theorem w_1083 : (Jvm.Cond.methodLink "MapHall" (214 : Nat) ({ cls := "MapHall$Stacks", name := "countByAdding", desc := "(LMapHall$Sheet;I)I" } : Jvm.MethodName)) ∈ wsG := wsG_of (wsT5_in 110 rfl) rfl
theorem w_1084 : (Jvm.Cond.instanceMethod ({ cls := "MapHall$Stacks", name := "countByAdding", desc := "(LMapHall$Sheet;I)I" } : Jvm.MethodName)) ∈ wsG := wsG_of (wsT5_in 111 rfl) rfl
theorem w_1085 : (Jvm.Cond.selects "MapHall$Stacks" ({ cls := "MapHall$Stacks", name := "countByAdding", desc := "(LMapHall$Sheet;I)I" } : Jvm.MethodName) ({ cls := "MapHall$Stacks", name := "countByAdding", desc := "(LMapHall$Sheet;I)I" } : Jvm.MethodName)) ∈ wsG := wsG_of (wsT5_in 112 rfl) rfl
theorem w_1086 : (Jvm.Cond.code ({ cls := "MapHall$Stacks", name := "countByAdding", desc := "(LMapHall$Sheet;I)I" } : Jvm.MethodName) prog_10_method_2_code (3 : Nat) (Option.some Jvm.ClassFile.FieldType.int)) ∈ wsG := wsG_of (wsT5_in 113 rfl) rfl
theorem w_1087 : (Jvm.Cond.methodLink "MapHall$Stacks" (15 : Nat) ({ cls := "MapHall$Stacks", name := "countFrom", desc := "(LMapHall$Sheet;[III)I" } : Jvm.MethodName)) ∈ wsG := wsG_of (wsT5_in 114 rfl) rfl
theorem w_1088 : (Jvm.Cond.static ({ cls := "MapHall$Stacks", name := "countFrom", desc := "(LMapHall$Sheet;[III)I" } : Jvm.MethodName)) ∈ wsG := wsG_of (wsT5_in 115 rfl) rfl
theorem w_1089 : (Jvm.Cond.code ({ cls := "MapHall$Stacks", name := "countFrom", desc := "(LMapHall$Sheet;[III)I" } : Jvm.MethodName) prog_10_method_4_code (6 : Nat) (Option.some Jvm.ClassFile.FieldType.int)) ∈ wsG := wsG_of (wsT5_in 116 rfl) rfl
theorem w_1090 : (Jvm.Cond.methodLink "MapHall$Stacks" (29 : Nat) ({ cls := "MapHall$Stacks", name := "slideIn", desc := "([III)V" } : Jvm.MethodName)) ∈ wsG := wsG_of (wsT5_in 117 rfl) rfl
theorem w_1091 : (Jvm.Cond.static ({ cls := "MapHall$Stacks", name := "slideIn", desc := "([III)V" } : Jvm.MethodName)) ∈ wsG := wsG_of (wsT5_in 118 rfl) rfl
theorem w_1092 : (Jvm.Cond.code ({ cls := "MapHall$Stacks", name := "slideIn", desc := "([III)V" } : Jvm.MethodName) prog_10_method_5_code (4 : Nat) (Option.none : Option Jvm.ClassFile.FieldType)) ∈ wsG := wsG_of (wsT5_in 119 rfl) rfl
theorem w_1093 : (Jvm.Cond.methodLink "MapHall$Stacks" (33 : Nat) ({ cls := "MapHall$Stacks", name := "isCreasePossible", desc := "(LMapHall$Sheet;[II)Z" } : Jvm.MethodName)) ∈ wsG := wsG_of (wsT5_in 120 rfl) rfl
theorem w_1094 : (Jvm.Cond.static ({ cls := "MapHall$Stacks", name := "isCreasePossible", desc := "(LMapHall$Sheet;[II)Z" } : Jvm.MethodName)) ∈ wsG := wsG_of (wsT5_in 121 rfl) rfl
theorem w_1095 : (Jvm.Cond.code ({ cls := "MapHall$Stacks", name := "isCreasePossible", desc := "(LMapHall$Sheet;[II)Z" } : Jvm.MethodName) prog_10_method_10_code (5 : Nat) (Option.some Jvm.ClassFile.FieldType.boolean)) ∈ wsG := wsG_of (wsT5_in 122 rfl) rfl
theorem w_1096 : (Jvm.Cond.methodLink "MapHall$Stacks" (52 : Nat) ({ cls := "MapHall$Stacks", name := "cross", desc := "([III)Z" } : Jvm.MethodName)) ∈ wsG := wsG_of (wsT5_in 123 rfl) rfl
theorem w_1097 : (Jvm.Cond.static ({ cls := "MapHall$Stacks", name := "cross", desc := "([III)Z" } : Jvm.MethodName)) ∈ wsG := wsG_of (wsT5_in 124 rfl) rfl
theorem w_1098 : (Jvm.Cond.code ({ cls := "MapHall$Stacks", name := "cross", desc := "([III)Z" } : Jvm.MethodName) prog_10_method_11_code (5 : Nat) (Option.some Jvm.ClassFile.FieldType.boolean)) ∈ wsG := wsG_of (wsT5_in 125 rfl) rfl
theorem w_1099 : (Jvm.Cond.methodLink "MapHall$Stacks" (56 : Nat) ({ cls := "java/lang/Math", name := "min", desc := "(II)I" } : Jvm.MethodName)) ∈ wsG := wsG_of (wsT5_in 126 rfl) rfl
theorem w_1100 : (Jvm.Cond.methodLink "MapHall$Stacks" (62 : Nat) ({ cls := "java/lang/Math", name := "max", desc := "(II)I" } : Jvm.MethodName)) ∈ wsG := wsG_of (wsT5_in 127 rfl) rfl
theorem w_1101 : (Jvm.Cond.methodLink "MapHall$Stacks" (65 : Nat) ({ cls := "MapHall$Stacks", name := "isBetween", desc := "(III)Z" } : Jvm.MethodName)) ∈ wsG := wsG_of (wsT5_in 128 rfl) rfl
theorem w_1102 : (Jvm.Cond.static ({ cls := "MapHall$Stacks", name := "isBetween", desc := "(III)Z" } : Jvm.MethodName)) ∈ wsG := wsG_of (wsT5_in 129 rfl) rfl
theorem w_1103 : (Jvm.Cond.code ({ cls := "MapHall$Stacks", name := "isBetween", desc := "(III)Z" } : Jvm.MethodName) prog_10_method_12_code (3 : Nat) (Option.some Jvm.ClassFile.FieldType.boolean)) ∈ wsG := wsG_of (wsT5_in 130 rfl) rfl
theorem w_1104 : (Jvm.Cond.methodLink "MapHall$Stacks" (37 : Nat) ({ cls := "MapHall$Stacks", name := "pullOut", desc := "([II)V" } : Jvm.MethodName)) ∈ wsG := wsG_of (wsT5_in 131 rfl) rfl
theorem w_1105 : (Jvm.Cond.static ({ cls := "MapHall$Stacks", name := "pullOut", desc := "([II)V" } : Jvm.MethodName)) ∈ wsG := wsG_of (wsT5_in 132 rfl) rfl
theorem w_1106 : (Jvm.Cond.code ({ cls := "MapHall$Stacks", name := "pullOut", desc := "([II)V" } : Jvm.MethodName) prog_10_method_6_code (3 : Nat) (Option.none : Option Jvm.ClassFile.FieldType)) ∈ wsG := wsG_of (wsT5_in 133 rfl) rfl
theorem w_1107 : (Jvm.Cond.methodLink "MapHallLaw" (246 : Nat) ({ cls := "MapHallLaw", name := "writeSheet", desc := "(LMapHall;I)I" } : Jvm.MethodName)) ∈ wsG := wsG_of (wsT5_in 134 rfl) rfl
theorem w_1108 : (Jvm.Cond.static ({ cls := "MapHallLaw", name := "writeSheet", desc := "(LMapHall;I)I" } : Jvm.MethodName)) ∈ wsG := wsG_of (wsT5_in 135 rfl) rfl
theorem w_1109 : (Jvm.Cond.codeWith ({ cls := "MapHallLaw", name := "writeSheet", desc := "(LMapHall;I)I" } : Jvm.MethodName) method_38_code (3 : Nat) (Option.some Jvm.ClassFile.FieldType.int) [((0 : Nat), (5 : Nat), (6 : Nat), (21 : Nat))]) ∈ wsG := wsG_of (wsT5_in 136 rfl) rfl
theorem w_1110 : (Jvm.Cond.methodLink "MapHallLaw" (138 : Nat) ({ cls := "MapHall", name := "writeSheet", desc := "(I)I" } : Jvm.MethodName)) ∈ wsG := wsG_of (wsT5_in 137 rfl) rfl
theorem w_1111 : (Jvm.Cond.instanceMethod ({ cls := "MapHall", name := "writeSheet", desc := "(I)I" } : Jvm.MethodName)) ∈ wsG := wsG_of (wsT5_in 138 rfl) rfl
theorem w_1112 : (Jvm.Cond.selects "MapHall" ({ cls := "MapHall", name := "writeSheet", desc := "(I)I" } : Jvm.MethodName) ({ cls := "MapHall", name := "writeSheet", desc := "(I)I" } : Jvm.MethodName)) ∈ wsG := wsG_of (wsT5_in 139 rfl) rfl
theorem w_1113 : (Jvm.Cond.code ({ cls := "MapHall", name := "writeSheet", desc := "(I)I" } : Jvm.MethodName) prog_1_method_49_code (2 : Nat) (Option.some Jvm.ClassFile.FieldType.int)) ∈ wsG := wsG_of (wsT5_in 140 rfl) rfl
theorem w_1114 : (Jvm.Cond.methodLink "MapHall" (324 : Nat) ({ cls := "MapHall$Output", name := "describeSheet", desc := "(LMapHall$Sheet;)V" } : Jvm.MethodName)) ∈ wsG := wsG_of (wsT5_in 141 rfl) rfl
theorem w_1115 : (Jvm.Cond.instanceMethod ({ cls := "MapHall$Output", name := "describeSheet", desc := "(LMapHall$Sheet;)V" } : Jvm.MethodName)) ∈ wsG := wsG_of (wsT5_in 142 rfl) rfl
theorem w_1116 : (Jvm.Cond.selects "MapHall$Output" ({ cls := "MapHall$Output", name := "describeSheet", desc := "(LMapHall$Sheet;)V" } : Jvm.MethodName) ({ cls := "MapHall$Output", name := "describeSheet", desc := "(LMapHall$Sheet;)V" } : Jvm.MethodName)) ∈ wsG := wsG_of (wsT5_in 143 rfl) rfl
theorem w_1117 : (Jvm.Cond.code ({ cls := "MapHall$Output", name := "describeSheet", desc := "(LMapHall$Sheet;)V" } : Jvm.MethodName) prog_6_method_3_code (3 : Nat) (Option.none : Option Jvm.ClassFile.FieldType)) ∈ wsG := wsG_of (wsT5_in 144 rfl) rfl
theorem w_1118 : (Jvm.Cond.methodLink "MapHall$Output" (54 : Nat) ({ cls := "MapHall$Sheet", name := "borderWhenTurned", desc := "(II)I" } : Jvm.MethodName)) ∈ wsG := wsG_of (wsT5_in 145 rfl) rfl
theorem w_1119 : (Jvm.Cond.methodLink "MapHallLaw" (356 : Nat) ({ cls := "MapHallLaw", name := "changes", desc := "(LMapHall;I)Z" } : Jvm.MethodName)) ∈ wsG := wsG_of (wsT5_in 146 rfl) rfl
theorem w_1120 : (Jvm.Cond.static ({ cls := "MapHallLaw", name := "changes", desc := "(LMapHall;I)Z" } : Jvm.MethodName)) ∈ wsG := wsG_of (wsT5_in 147 rfl) rfl
theorem w_1121 : (Jvm.Cond.code ({ cls := "MapHallLaw", name := "changes", desc := "(LMapHall;I)Z" } : Jvm.MethodName) method_46_code (4 : Nat) (Option.some Jvm.ClassFile.FieldType.boolean)) ∈ wsG := wsG_of (wsT5_in 148 rfl) rfl
theorem w_1124 : (Jvm.Cond.classLink "MapHallLaw" (260 : Nat) "java/lang/StringBuilder") ∈ wsG := wsG_of (wsT5_in 151 rfl) rfl
theorem w_1125 : (Jvm.Cond.instantiable "java/lang/StringBuilder" (4 : Nat)) ∈ wsG := wsG_of (wsT5_in 152 rfl) rfl
theorem w_1126 : (Jvm.Cond.methodLink "MapHallLaw" (262 : Nat) ({ cls := "java/lang/StringBuilder", name := "<init>", desc := "()V" } : Jvm.MethodName)) ∈ wsG := wsG_of (wsT5_in 153 rfl) rfl
theorem w_1127 : (Jvm.Cond.instanceMethod ({ cls := "java/lang/StringBuilder", name := "<init>", desc := "()V" } : Jvm.MethodName)) ∈ wsG := wsG_of (wsT5_in 154 rfl) rfl
theorem w_1128 : (Jvm.Cond.code ({ cls := "java/lang/StringBuilder", name := "<init>", desc := "()V" } : Jvm.MethodName) prog_34_method_1_code (1 : Nat) (Option.none : Option Jvm.ClassFile.FieldType)) ∈ wsG := wsG_of (wsT5_in 155 rfl) rfl
theorem w_1129 : (Jvm.Cond.methodLink "java/lang/StringBuilder" (1 : Nat) ({ cls := "java/lang/AbstractStringBuilder", name := "<init>", desc := "(I)V" } : Jvm.MethodName)) ∈ wsG := wsG_of (wsT5_in 156 rfl) rfl
theorem w_1130 : (Jvm.Cond.instanceMethod ({ cls := "java/lang/AbstractStringBuilder", name := "<init>", desc := "(I)V" } : Jvm.MethodName)) ∈ wsG := wsG_of (wsT5_in 157 rfl) rfl
theorem w_1131 : (Jvm.Cond.code ({ cls := "java/lang/AbstractStringBuilder", name := "<init>", desc := "(I)V" } : Jvm.MethodName) prog_15_method_2_code (2 : Nat) (Option.none : Option Jvm.ClassFile.FieldType)) ∈ wsG := wsG_of (wsT5_in 158 rfl) rfl
theorem w_1132 : (Jvm.Cond.methodLink "java/lang/AbstractStringBuilder" (3 : Nat) ({ cls := "java/lang/Object", name := "<init>", desc := "()V" } : Jvm.MethodName)) ∈ wsG := wsG_of (wsT5_in 159 rfl) rfl
theorem w_1133 : (Jvm.Cond.fieldLink "java/lang/AbstractStringBuilder" (18 : Nat) "java/lang/String" "COMPACT_STRINGS" "Z") ∈ wsG := wsG_of (wsT5_in 160 rfl) rfl
theorem w_1134 : (Jvm.Cond.methodLink "java/lang/AbstractStringBuilder" (26 : Nat) ({ cls := "java/lang/StringUTF16", name := "newBytesFor", desc := "(I)[B" } : Jvm.MethodName)) ∈ wsG := wsG_of (wsT5_in 161 rfl) rfl
theorem w_1135 : (Jvm.Cond.static ({ cls := "java/lang/StringUTF16", name := "newBytesFor", desc := "(I)[B" } : Jvm.MethodName)) ∈ wsG := wsG_of (wsT5_in 162 rfl) rfl
theorem w_1136 : (Jvm.Cond.code ({ cls := "java/lang/StringUTF16", name := "newBytesFor", desc := "(I)[B" } : Jvm.MethodName) prog_36_method_2_code (1 : Nat) (Option.some (Jvm.ClassFile.FieldType.array Jvm.ClassFile.FieldType.byte))) ∈ wsG := wsG_of (wsT5_in 163 rfl) rfl
theorem w_1137 : (Jvm.Cond.methodLink "java/lang/StringUTF16" (11 : Nat) ({ cls := "java/lang/StringUTF16", name := "newBytesLength", desc := "(I)I" } : Jvm.MethodName)) ∈ wsG := wsG_of (wsT5_in 164 rfl) rfl
theorem w_1138 : (Jvm.Cond.static ({ cls := "java/lang/StringUTF16", name := "newBytesLength", desc := "(I)I" } : Jvm.MethodName)) ∈ wsG := wsG_of (wsT5_in 165 rfl) rfl
theorem w_1139 : (Jvm.Cond.code ({ cls := "java/lang/StringUTF16", name := "newBytesLength", desc := "(I)I" } : Jvm.MethodName) prog_36_method_3_code (1 : Nat) (Option.some Jvm.ClassFile.FieldType.int)) ∈ wsG := wsG_of (wsT5_in 166 rfl) rfl
theorem w_1140 : (Jvm.Cond.constant "java/lang/StringUTF16" (20 : Nat) (1073741823 : Int32)) ∈ wsG := wsG_of (wsT5_in 167 rfl) rfl
theorem w_1141 : (Jvm.Cond.fieldLink "java/lang/AbstractStringBuilder" (15 : Nat) "java/lang/AbstractStringBuilder" "value" "[B") ∈ wsG := wsG_of (wsT5_in 168 rfl) rfl
theorem w_1142 : (Jvm.Cond.fieldLink "java/lang/AbstractStringBuilder" (22 : Nat) "java/lang/AbstractStringBuilder" "coder" "B") ∈ wsG := wsG_of (wsT5_in 169 rfl) rfl
theorem w_1143 : (Jvm.Cond.fieldLink "java/lang/String" (1048 : Nat) "java/lang/AbstractStringBuilder" "maybeLatin1" "Z") ∈ wsG := wsG_of (wsT5_in 170 rfl) rfl
theorem w_1144 : (Jvm.Cond.fieldLink "java/lang/AbstractStringBuilder" (79 : Nat) "java/lang/AbstractStringBuilder" "count" "I") ∈ wsG := wsG_of (wsT5_in 171 rfl) rfl
theorem w_1145 : (Jvm.Cond.lays "java/lang/StringBuilder" "java/lang/AbstractStringBuilder" "value" "[B") ∈ wsG := wsG_of (wsT5_in 172 rfl) rfl
theorem w_1147 : (Jvm.Cond.lays "java/lang/StringBuilder" "java/lang/AbstractStringBuilder" "coder" "B") ∈ wsG := wsG_of (wsT5_in 174 rfl) rfl
theorem w_1149 : (Jvm.Cond.lays "java/lang/StringBuilder" "java/lang/AbstractStringBuilder" "maybeLatin1" "Z") ∈ wsG := wsG_of (wsT5_in 176 rfl) rfl
theorem w_1151 : (Jvm.Cond.lays "java/lang/StringBuilder" "java/lang/AbstractStringBuilder" "count" "I") ∈ wsG := wsG_of (wsT5_in 178 rfl) rfl
theorem w_1155 : (Jvm.Cond.methodLink "MapHallLaw" (265 : Nat) ({ cls := "java/lang/StringBuilder", name := "append", desc := "(Ljava/lang/String;)Ljava/lang/StringBuilder;" } : Jvm.MethodName)) ∈ wsG := wsG_of (wsT5_in 182 rfl) rfl
theorem w_1156 : (Jvm.Cond.instanceMethod ({ cls := "java/lang/StringBuilder", name := "append", desc := "(Ljava/lang/String;)Ljava/lang/StringBuilder;" } : Jvm.MethodName)) ∈ wsG := wsG_of (wsT5_in 183 rfl) rfl
theorem w_1157 : (Jvm.Cond.selects "java/lang/StringBuilder" ({ cls := "java/lang/StringBuilder", name := "append", desc := "(Ljava/lang/String;)Ljava/lang/StringBuilder;" } : Jvm.MethodName) ({ cls := "java/lang/StringBuilder", name := "append", desc := "(Ljava/lang/String;)Ljava/lang/StringBuilder;" } : Jvm.MethodName)) ∈ wsG := wsG_of (wsT5_in 184 rfl) rfl
theorem w_1158 : (Jvm.Cond.code ({ cls := "java/lang/StringBuilder", name := "append", desc := "(Ljava/lang/String;)Ljava/lang/StringBuilder;" } : Jvm.MethodName) prog_34_method_7_code (2 : Nat) (Option.some (Jvm.ClassFile.FieldType.object "java/lang/StringBuilder"))) ∈ wsG := wsG_of (wsT5_in 185 rfl) rfl
theorem w_1159 : (Jvm.Cond.methodLink "java/lang/StringBuilder" (29 : Nat) ({ cls := "java/lang/AbstractStringBuilder", name := "append", desc := "(Ljava/lang/String;)Ljava/lang/AbstractStringBuilder;" } : Jvm.MethodName)) ∈ wsG := wsG_of (wsT5_in 186 rfl) rfl
theorem w_1160 : (Jvm.Cond.instanceMethod ({ cls := "java/lang/AbstractStringBuilder", name := "append", desc := "(Ljava/lang/String;)Ljava/lang/AbstractStringBuilder;" } : Jvm.MethodName)) ∈ wsG := wsG_of (wsT5_in 187 rfl) rfl
theorem w_1161 : (Jvm.Cond.code ({ cls := "java/lang/AbstractStringBuilder", name := "append", desc := "(Ljava/lang/String;)Ljava/lang/AbstractStringBuilder;" } : Jvm.MethodName) prog_15_method_22_code (3 : Nat) (Option.some (Jvm.ClassFile.FieldType.object "java/lang/AbstractStringBuilder"))) ∈ wsG := wsG_of (wsT5_in 188 rfl) rfl
theorem w_1162 : (Jvm.Cond.methodLink "java/lang/AbstractStringBuilder" (204 : Nat) ({ cls := "java/lang/AbstractStringBuilder", name := "appendNull", desc := "()Ljava/lang/AbstractStringBuilder;" } : Jvm.MethodName)) ∈ wsG := wsG_of (wsT5_in 189 rfl) rfl
theorem w_1164 : (Jvm.Cond.instanceMethod ({ cls := "java/lang/AbstractStringBuilder", name := "appendNull", desc := "()Ljava/lang/AbstractStringBuilder;" } : Jvm.MethodName)) ∈ wsG := wsG_of (wsT5_in 191 rfl) rfl
theorem w_1165 : (Jvm.Cond.code ({ cls := "java/lang/AbstractStringBuilder", name := "appendNull", desc := "()Ljava/lang/AbstractStringBuilder;" } : Jvm.MethodName) prog_15_method_26_code (3 : Nat) (Option.some (Jvm.ClassFile.FieldType.object "java/lang/AbstractStringBuilder"))) ∈ wsG := wsG_of (wsT5_in 192 rfl) rfl
theorem w_1166 : (Jvm.Cond.methodLink "java/lang/AbstractStringBuilder" (100 : Nat) ({ cls := "java/lang/AbstractStringBuilder", name := "ensureCapacityInternal", desc := "(I)V" } : Jvm.MethodName)) ∈ wsG := wsG_of (wsT5_in 193 rfl) rfl
theorem w_1168 : (Jvm.Cond.instanceMethod ({ cls := "java/lang/AbstractStringBuilder", name := "ensureCapacityInternal", desc := "(I)V" } : Jvm.MethodName)) ∈ wsG := wsG_of (wsT5_in 195 rfl) rfl
theorem w_1169 : (Jvm.Cond.code ({ cls := "java/lang/AbstractStringBuilder", name := "ensureCapacityInternal", desc := "(I)V" } : Jvm.MethodName) prog_15_method_9_code (3 : Nat) (Option.none : Option Jvm.ClassFile.FieldType)) ∈ wsG := wsG_of (wsT5_in 196 rfl) rfl
theorem w_1170 : (Jvm.Cond.methodLink "java/lang/AbstractStringBuilder" (104 : Nat) ({ cls := "java/lang/AbstractStringBuilder", name := "newCapacity", desc := "(I)I" } : Jvm.MethodName)) ∈ wsG := wsG_of (wsT5_in 197 rfl) rfl
theorem w_1172 : (Jvm.Cond.instanceMethod ({ cls := "java/lang/AbstractStringBuilder", name := "newCapacity", desc := "(I)I" } : Jvm.MethodName)) ∈ wsG := wsG_of (wsT5_in 199 rfl) rfl
theorem w_1173 : (Jvm.Cond.code ({ cls := "java/lang/AbstractStringBuilder", name := "newCapacity", desc := "(I)I" } : Jvm.MethodName) prog_15_method_10_code (6 : Nat) (Option.some Jvm.ClassFile.FieldType.int)) ∈ wsG := wsG_of (wsT5_in 200 rfl) rfl
theorem w_1174 : (Jvm.Cond.methodLink "java/lang/AbstractStringBuilder" (114 : Nat) ({ cls := "jdk/internal/util/ArraysSupport", name := "newLength", desc := "(III)I" } : Jvm.MethodName)) ∈ wsG := wsG_of (wsT5_in 201 rfl) rfl
theorem w_1175 : (Jvm.Cond.static ({ cls := "jdk/internal/util/ArraysSupport", name := "newLength", desc := "(III)I" } : Jvm.MethodName)) ∈ wsG := wsG_of (wsT5_in 202 rfl) rfl
theorem w_1176 : (Jvm.Cond.code ({ cls := "jdk/internal/util/ArraysSupport", name := "newLength", desc := "(III)I" } : Jvm.MethodName) prog_44_method_27_code (4 : Nat) (Option.some Jvm.ClassFile.FieldType.int)) ∈ wsG := wsG_of (wsT5_in 203 rfl) rfl
theorem w_1177 : (Jvm.Cond.methodLink "jdk/internal/util/ArraysSupport" (194 : Nat) ({ cls := "java/lang/Math", name := "max", desc := "(II)I" } : Jvm.MethodName)) ∈ wsG := wsG_of (wsT5_in 204 rfl) rfl
theorem w_1178 : (Jvm.Cond.constant "jdk/internal/util/ArraysSupport" (200 : Nat) (2147483639 : Int32)) ∈ wsG := wsG_of (wsT5_in 205 rfl) rfl
theorem w_1179 : (Jvm.Cond.methodLink "jdk/internal/util/ArraysSupport" (201 : Nat) ({ cls := "jdk/internal/util/ArraysSupport", name := "hugeLength", desc := "(II)I" } : Jvm.MethodName)) ∈ wsG := wsG_of (wsT5_in 206 rfl) rfl
theorem w_1180 : (Jvm.Cond.static ({ cls := "jdk/internal/util/ArraysSupport", name := "hugeLength", desc := "(II)I" } : Jvm.MethodName)) ∈ wsG := wsG_of (wsT5_in 207 rfl) rfl
theorem w_1181 : (Jvm.Cond.code ({ cls := "jdk/internal/util/ArraysSupport", name := "hugeLength", desc := "(II)I" } : Jvm.MethodName) prog_44_method_28_code (3 : Nat) (Option.some Jvm.ClassFile.FieldType.int)) ∈ wsG := wsG_of (wsT5_in 208 rfl) rfl
theorem w_1182 : (Jvm.Cond.constant "java/lang/AbstractStringBuilder" (39 : Nat) (2147483647 : Int32)) ∈ wsG := wsG_of (wsT5_in 209 rfl) rfl
theorem w_1183 : (Jvm.Cond.methodLink "java/lang/AbstractStringBuilder" (108 : Nat) ({ cls := "java/util/Arrays", name := "copyOf", desc := "([BI)[B" } : Jvm.MethodName)) ∈ wsG := wsG_of (wsT5_in 210 rfl) rfl
theorem w_1184 : (Jvm.Cond.static ({ cls := "java/util/Arrays", name := "copyOf", desc := "([BI)[B" } : Jvm.MethodName)) ∈ wsG := wsG_of (wsT5_in 211 rfl) rfl
theorem w_1185 : (Jvm.Cond.code ({ cls := "java/util/Arrays", name := "copyOf", desc := "([BI)[B" } : Jvm.MethodName) prog_42_method_121_code (3 : Nat) (Option.some (Jvm.ClassFile.FieldType.array Jvm.ClassFile.FieldType.byte))) ∈ wsG := wsG_of (wsT5_in 212 rfl) rfl
theorem w_1186 : (Jvm.Cond.methodLink "java/util/Arrays" (310 : Nat) ({ cls := "[B", name := "clone", desc := "()Ljava/lang/Object;" } : Jvm.MethodName)) ∈ wsG := wsG_of (wsT5_in 213 rfl) rfl
theorem w_1188 : (Jvm.Cond.native ({ cls := "java/lang/Object", name := "clone", desc := "()Ljava/lang/Object;" } : Jvm.MethodName)) ∈ wsG := wsG_of (wsT5_in 215 rfl) rfl
theorem w_1189 : (Jvm.Cond.instanceMethod ({ cls := "java/lang/Object", name := "clone", desc := "()Ljava/lang/Object;" } : Jvm.MethodName)) ∈ wsG := wsG_of (wsT5_in 216 rfl) rfl
theorem w_1190 : (Jvm.Cond.selects "[B" ({ cls := "[B", name := "clone", desc := "()Ljava/lang/Object;" } : Jvm.MethodName) ({ cls := "java/lang/Object", name := "clone", desc := "()Ljava/lang/Object;" } : Jvm.MethodName)) ∈ wsG := wsG_of (wsT5_in 217 rfl) rfl
theorem w_1192 : (Jvm.Cond.classLink "java/util/Arrays" (311 : Nat) "[B") ∈ wsG := wsG_of (wsT5_in 219 rfl) rfl
theorem w_1193 : (Jvm.Cond.methodLink "java/util/Arrays" (304 : Nat) ({ cls := "java/lang/Math", name := "min", desc := "(II)I" } : Jvm.MethodName)) ∈ wsG := wsG_of (wsT5_in 220 rfl) rfl
theorem w_1194 : (Jvm.Cond.methodLink "java/util/Arrays" (150 : Nat) ({ cls := "java/lang/System", name := "arraycopy", desc := "(Ljava/lang/Object;ILjava/lang/Object;II)V" } : Jvm.MethodName)) ∈ wsG := wsG_of (wsT5_in 221 rfl) rfl
theorem w_1195 : (Jvm.Cond.methodLink "java/lang/AbstractStringBuilder" (83 : Nat) ({ cls := "java/lang/AbstractStringBuilder", name := "isLatin1", desc := "()Z" } : Jvm.MethodName)) ∈ wsG := wsG_of (wsT5_in 222 rfl) rfl
theorem w_1196 : (Jvm.Cond.instanceMethod ({ cls := "java/lang/AbstractStringBuilder", name := "isLatin1", desc := "()Z" } : Jvm.MethodName)) ∈ wsG := wsG_of (wsT5_in 223 rfl) rfl
theorem w_1198 : (Jvm.Cond.selects "java/lang/StringBuilder" ({ cls := "java/lang/AbstractStringBuilder", name := "isLatin1", desc := "()Z" } : Jvm.MethodName) ({ cls := "java/lang/AbstractStringBuilder", name := "isLatin1", desc := "()Z" } : Jvm.MethodName)) ∈ wsG := wsG_of (wsT5_in 225 rfl) rfl
theorem w_1199 : (Jvm.Cond.code ({ cls := "java/lang/AbstractStringBuilder", name := "isLatin1", desc := "()Z" } : Jvm.MethodName) prog_15_method_68_code (1 : Nat) (Option.some Jvm.ClassFile.FieldType.boolean)) ∈ wsG := wsG_of (wsT5_in 226 rfl) rfl
theorem w_1200 : (Jvm.Cond.methodLink "java/lang/AbstractStringBuilder" (226 : Nat) ({ cls := "java/lang/StringUTF16", name := "putCharsAt", desc := "([BICCCC)I" } : Jvm.MethodName)) ∈ wsG := wsG_of (wsT5_in 227 rfl) rfl
theorem w_1201 : (Jvm.Cond.static ({ cls := "java/lang/StringUTF16", name := "putCharsAt", desc := "([BICCCC)I" } : Jvm.MethodName)) ∈ wsG := wsG_of (wsT5_in 228 rfl) rfl
theorem w_1202 : (Jvm.Cond.code ({ cls := "java/lang/StringUTF16", name := "putCharsAt", desc := "([BICCCC)I" } : Jvm.MethodName) prog_36_method_81_code (7 : Nat) (Option.some Jvm.ClassFile.FieldType.int)) ∈ wsG := wsG_of (wsT5_in 229 rfl) rfl
theorem w_1203 : (Jvm.Cond.methodLink "java/lang/StringUTF16" (96 : Nat) ({ cls := "java/lang/StringUTF16", name := "checkBoundsBeginEnd", desc := "(II[B)V" } : Jvm.MethodName)) ∈ wsG := wsG_of (wsT5_in 230 rfl) rfl
theorem w_1204 : (Jvm.Cond.static ({ cls := "java/lang/StringUTF16", name := "checkBoundsBeginEnd", desc := "(II[B)V" } : Jvm.MethodName)) ∈ wsG := wsG_of (wsT5_in 231 rfl) rfl
theorem w_1205 : (Jvm.Cond.code ({ cls := "java/lang/StringUTF16", name := "checkBoundsBeginEnd", desc := "(II[B)V" } : Jvm.MethodName) prog_36_method_93_code (3 : Nat) (Option.none : Option Jvm.ClassFile.FieldType)) ∈ wsG := wsG_of (wsT5_in 232 rfl) rfl
theorem w_1206 : (Jvm.Cond.methodLink "java/lang/StringUTF16" (241 : Nat) ({ cls := "java/lang/String", name := "checkBoundsBeginEnd", desc := "(III)V" } : Jvm.MethodName)) ∈ wsG := wsG_of (wsT5_in 233 rfl) rfl
theorem w_1207 : (Jvm.Cond.static ({ cls := "java/lang/String", name := "checkBoundsBeginEnd", desc := "(III)V" } : Jvm.MethodName)) ∈ wsG := wsG_of (wsT5_in 234 rfl) rfl
theorem w_1208 : (Jvm.Cond.code ({ cls := "java/lang/String", name := "checkBoundsBeginEnd", desc := "(III)V" } : Jvm.MethodName) prog_33_method_158_code (3 : Nat) (Option.none : Option Jvm.ClassFile.FieldType)) ∈ wsG := wsG_of (wsT5_in 235 rfl) rfl
theorem w_1209 : (Jvm.Cond.methodLink "java/lang/String" (1062 : Nat) ({ cls := "jdk/internal/util/Preconditions", name := "checkFromToIndex", desc := "(IIILjava/util/function/BiFunction;)I" } : Jvm.MethodName)) ∈ wsG := wsG_of (wsT5_in 236 rfl) rfl
theorem w_1210 : (Jvm.Cond.static ({ cls := "jdk/internal/util/Preconditions", name := "checkFromToIndex", desc := "(IIILjava/util/function/BiFunction;)I" } : Jvm.MethodName)) ∈ wsG := wsG_of (wsT5_in 237 rfl) rfl
theorem w_1211 : (Jvm.Cond.code ({ cls := "jdk/internal/util/Preconditions", name := "checkFromToIndex", desc := "(IIILjava/util/function/BiFunction;)I" } : Jvm.MethodName) prog_45_method_12_code (4 : Nat) (Option.some Jvm.ClassFile.FieldType.int)) ∈ wsG := wsG_of (wsT5_in 238 rfl) rfl
theorem w_1212 : (Jvm.Cond.methodLink "java/lang/StringUTF16" (111 : Nat) ({ cls := "java/lang/StringUTF16", name := "putChar", desc := "([BII)V" } : Jvm.MethodName)) ∈ wsG := wsG_of (wsT5_in 239 rfl) rfl
theorem w_1213 : (Jvm.Cond.static ({ cls := "java/lang/StringUTF16", name := "putChar", desc := "([BII)V" } : Jvm.MethodName)) ∈ wsG := wsG_of (wsT6_in 0 rfl) rfl
theorem w_1214 : (Jvm.Cond.code ({ cls := "java/lang/StringUTF16", name := "putChar", desc := "([BII)V" } : Jvm.MethodName) prog_36_method_4_code (3 : Nat) (Option.none : Option Jvm.ClassFile.FieldType)) ∈ wsG := wsG_of (wsT6_in 1 rfl) rfl
theorem w_1215 : (Jvm.Cond.methodLink "java/lang/AbstractStringBuilder" (32 : Nat) ({ cls := "java/lang/String", name := "length", desc := "()I" } : Jvm.MethodName)) ∈ wsG := wsG_of (wsT6_in 2 rfl) rfl
theorem w_1216 : (Jvm.Cond.methodLink "java/lang/AbstractStringBuilder" (208 : Nat) ({ cls := "java/lang/AbstractStringBuilder", name := "putStringAt", desc := "(ILjava/lang/String;)V" } : Jvm.MethodName)) ∈ wsG := wsG_of (wsT6_in 3 rfl) rfl
theorem w_1218 : (Jvm.Cond.instanceMethod ({ cls := "java/lang/AbstractStringBuilder", name := "putStringAt", desc := "(ILjava/lang/String;)V" } : Jvm.MethodName)) ∈ wsG := wsG_of (wsT6_in 5 rfl) rfl
theorem w_1219 : (Jvm.Cond.code ({ cls := "java/lang/AbstractStringBuilder", name := "putStringAt", desc := "(ILjava/lang/String;)V" } : Jvm.MethodName) prog_15_method_73_code (3 : Nat) (Option.none : Option Jvm.ClassFile.FieldType)) ∈ wsG := wsG_of (wsT6_in 6 rfl) rfl
theorem w_1220 : (Jvm.Cond.methodLink "java/lang/AbstractStringBuilder" (397 : Nat) ({ cls := "java/lang/AbstractStringBuilder", name := "inflateIfNeededFor", desc := "(Ljava/lang/String;)V" } : Jvm.MethodName)) ∈ wsG := wsG_of (wsT6_in 7 rfl) rfl
theorem w_1222 : (Jvm.Cond.instanceMethod ({ cls := "java/lang/AbstractStringBuilder", name := "inflateIfNeededFor", desc := "(Ljava/lang/String;)V" } : Jvm.MethodName)) ∈ wsG := wsG_of (wsT6_in 9 rfl) rfl
theorem w_1223 : (Jvm.Cond.code ({ cls := "java/lang/AbstractStringBuilder", name := "inflateIfNeededFor", desc := "(Ljava/lang/String;)V" } : Jvm.MethodName) prog_15_method_71_code (2 : Nat) (Option.none : Option Jvm.ClassFile.FieldType)) ∈ wsG := wsG_of (wsT6_in 10 rfl) rfl
theorem w_1224 : (Jvm.Cond.methodLink "java/lang/AbstractStringBuilder" (40 : Nat) ({ cls := "java/lang/String", name := "coder", desc := "()B" } : Jvm.MethodName)) ∈ wsG := wsG_of (wsT6_in 11 rfl) rfl
theorem w_1225 : (Jvm.Cond.methodLink "java/lang/AbstractStringBuilder" (195 : Nat) ({ cls := "java/lang/AbstractStringBuilder", name := "inflate", desc := "()V" } : Jvm.MethodName)) ∈ wsG := wsG_of (wsT6_in 12 rfl) rfl
theorem w_1227 : (Jvm.Cond.instanceMethod ({ cls := "java/lang/AbstractStringBuilder", name := "inflate", desc := "()V" } : Jvm.MethodName)) ∈ wsG := wsG_of (wsT6_in 14 rfl) rfl
theorem w_1228 : (Jvm.Cond.code ({ cls := "java/lang/AbstractStringBuilder", name := "inflate", desc := "()V" } : Jvm.MethodName) prog_15_method_11_code (2 : Nat) (Option.none : Option Jvm.ClassFile.FieldType)) ∈ wsG := wsG_of (wsT6_in 15 rfl) rfl
theorem w_1229 : (Jvm.Cond.methodLink "java/lang/AbstractStringBuilder" (125 : Nat) ({ cls := "java/lang/StringLatin1", name := "inflate", desc := "([BI[BII)V" } : Jvm.MethodName)) ∈ wsG := wsG_of (wsT6_in 16 rfl) rfl
theorem w_1230 : (Jvm.Cond.static ({ cls := "java/lang/StringLatin1", name := "inflate", desc := "([BI[BII)V" } : Jvm.MethodName)) ∈ wsG := wsG_of (wsT6_in 17 rfl) rfl
theorem w_1231 : (Jvm.Cond.code ({ cls := "java/lang/StringLatin1", name := "inflate", desc := "([BI[BII)V" } : Jvm.MethodName) prog_35_method_50_code (5 : Nat) (Option.none : Option Jvm.ClassFile.FieldType)) ∈ wsG := wsG_of (wsT6_in 18 rfl) rfl
theorem w_1232 : (Jvm.Cond.methodLink "java/lang/StringLatin1" (240 : Nat) ({ cls := "java/lang/StringUTF16", name := "inflate", desc := "([BI[BII)V" } : Jvm.MethodName)) ∈ wsG := wsG_of (wsT6_in 19 rfl) rfl
theorem w_1233 : (Jvm.Cond.static ({ cls := "java/lang/StringUTF16", name := "inflate", desc := "([BI[BII)V" } : Jvm.MethodName)) ∈ wsG := wsG_of (wsT6_in 20 rfl) rfl
theorem w_1234 : (Jvm.Cond.code ({ cls := "java/lang/StringUTF16", name := "inflate", desc := "([BI[BII)V" } : Jvm.MethodName) prog_36_method_86_code (6 : Nat) (Option.none : Option Jvm.ClassFile.FieldType)) ∈ wsG := wsG_of (wsT6_in 21 rfl) rfl
theorem w_1235 : (Jvm.Cond.methodLink "java/lang/StringUTF16" (173 : Nat) ({ cls := "java/lang/StringUTF16", name := "checkBoundsOffCount", desc := "(II[B)V" } : Jvm.MethodName)) ∈ wsG := wsG_of (wsT6_in 22 rfl) rfl
theorem w_1236 : (Jvm.Cond.static ({ cls := "java/lang/StringUTF16", name := "checkBoundsOffCount", desc := "(II[B)V" } : Jvm.MethodName)) ∈ wsG := wsG_of (wsT6_in 23 rfl) rfl
theorem w_1237 : (Jvm.Cond.code ({ cls := "java/lang/StringUTF16", name := "checkBoundsOffCount", desc := "(II[B)V" } : Jvm.MethodName) prog_36_method_94_code (3 : Nat) (Option.none : Option Jvm.ClassFile.FieldType)) ∈ wsG := wsG_of (wsT6_in 24 rfl) rfl
theorem w_1238 : (Jvm.Cond.methodLink "java/lang/StringUTF16" (419 : Nat) ({ cls := "java/lang/String", name := "checkBoundsOffCount", desc := "(III)I" } : Jvm.MethodName)) ∈ wsG := wsG_of (wsT6_in 25 rfl) rfl
theorem w_1239 : (Jvm.Cond.static ({ cls := "java/lang/String", name := "checkBoundsOffCount", desc := "(III)I" } : Jvm.MethodName)) ∈ wsG := wsG_of (wsT6_in 26 rfl) rfl
theorem w_1240 : (Jvm.Cond.code ({ cls := "java/lang/String", name := "checkBoundsOffCount", desc := "(III)I" } : Jvm.MethodName) prog_33_method_157_code (3 : Nat) (Option.some Jvm.ClassFile.FieldType.int)) ∈ wsG := wsG_of (wsT6_in 27 rfl) rfl
theorem w_1241 : (Jvm.Cond.methodLink "java/lang/String" (1065 : Nat) ({ cls := "jdk/internal/util/Preconditions", name := "checkFromIndexSize", desc := "(IIILjava/util/function/BiFunction;)I" } : Jvm.MethodName)) ∈ wsG := wsG_of (wsT6_in 28 rfl) rfl
theorem w_1242 : (Jvm.Cond.static ({ cls := "jdk/internal/util/Preconditions", name := "checkFromIndexSize", desc := "(IIILjava/util/function/BiFunction;)I" } : Jvm.MethodName)) ∈ wsG := wsG_of (wsT6_in 29 rfl) rfl
theorem w_1243 : (Jvm.Cond.code ({ cls := "jdk/internal/util/Preconditions", name := "checkFromIndexSize", desc := "(IIILjava/util/function/BiFunction;)I" } : Jvm.MethodName) prog_45_method_13_code (4 : Nat) (Option.some Jvm.ClassFile.FieldType.int)) ∈ wsG := wsG_of (wsT6_in 30 rfl) rfl
theorem w_1244 : (Jvm.Cond.methodLink "java/lang/AbstractStringBuilder" (399 : Nat) ({ cls := "java/lang/String", name := "getBytes", desc := "([BIB)V" } : Jvm.MethodName)) ∈ wsG := wsG_of (wsT6_in 31 rfl) rfl
theorem w_1245 : (Jvm.Cond.instanceMethod ({ cls := "java/lang/String", name := "getBytes", desc := "([BIB)V" } : Jvm.MethodName)) ∈ wsG := wsG_of (wsT6_in 32 rfl) rfl
theorem w_1246 : (Jvm.Cond.selects "java/lang/String" ({ cls := "java/lang/String", name := "getBytes", desc := "([BIB)V" } : Jvm.MethodName) ({ cls := "java/lang/String", name := "getBytes", desc := "([BIB)V" } : Jvm.MethodName)) ∈ wsG := wsG_of (wsT6_in 33 rfl) rfl
theorem w_1247 : (Jvm.Cond.code ({ cls := "java/lang/String", name := "getBytes", desc := "([BIB)V" } : Jvm.MethodName) prog_33_method_147_code (4 : Nat) (Option.none : Option Jvm.ClassFile.FieldType)) ∈ wsG := wsG_of (wsT6_in 34 rfl) rfl
theorem w_1248 : (Jvm.Cond.methodLink "java/lang/String" (212 : Nat) ({ cls := "java/lang/System", name := "arraycopy", desc := "(Ljava/lang/Object;ILjava/lang/Object;II)V" } : Jvm.MethodName)) ∈ wsG := wsG_of (wsT6_in 35 rfl) rfl
theorem w_1249 : (Jvm.Cond.methodLink "java/lang/String" (106 : Nat) ({ cls := "java/lang/StringLatin1", name := "inflate", desc := "([BI[BII)V" } : Jvm.MethodName)) ∈ wsG := wsG_of (wsT6_in 36 rfl) rfl
theorem w_1250 : (Jvm.Cond.methodLink "MapHallLaw" (269 : Nat) ({ cls := "java/lang/StringBuilder", name := "append", desc := "(I)Ljava/lang/StringBuilder;" } : Jvm.MethodName)) ∈ wsG := wsG_of (wsT6_in 37 rfl) rfl
theorem w_1251 : (Jvm.Cond.instanceMethod ({ cls := "java/lang/StringBuilder", name := "append", desc := "(I)Ljava/lang/StringBuilder;" } : Jvm.MethodName)) ∈ wsG := wsG_of (wsT6_in 38 rfl) rfl
theorem w_1252 : (Jvm.Cond.selects "java/lang/StringBuilder" ({ cls := "java/lang/StringBuilder", name := "append", desc := "(I)Ljava/lang/StringBuilder;" } : Jvm.MethodName) ({ cls := "java/lang/StringBuilder", name := "append", desc := "(I)Ljava/lang/StringBuilder;" } : Jvm.MethodName)) ∈ wsG := wsG_of (wsT6_in 39 rfl) rfl
theorem w_1253 : (Jvm.Cond.code ({ cls := "java/lang/StringBuilder", name := "append", desc := "(I)Ljava/lang/StringBuilder;" } : Jvm.MethodName) prog_34_method_15_code (2 : Nat) (Option.some (Jvm.ClassFile.FieldType.object "java/lang/StringBuilder"))) ∈ wsG := wsG_of (wsT6_in 40 rfl) rfl
theorem w_1254 : (Jvm.Cond.methodLink "java/lang/StringBuilder" (53 : Nat) ({ cls := "java/lang/AbstractStringBuilder", name := "append", desc := "(I)Ljava/lang/AbstractStringBuilder;" } : Jvm.MethodName)) ∈ wsG := wsG_of (wsT6_in 41 rfl) rfl
theorem w_1255 : (Jvm.Cond.instanceMethod ({ cls := "java/lang/AbstractStringBuilder", name := "append", desc := "(I)Ljava/lang/AbstractStringBuilder;" } : Jvm.MethodName)) ∈ wsG := wsG_of (wsT6_in 42 rfl) rfl
theorem w_1256 : (Jvm.Cond.code ({ cls := "java/lang/AbstractStringBuilder", name := "append", desc := "(I)Ljava/lang/AbstractStringBuilder;" } : Jvm.MethodName) prog_15_method_32_code (4 : Nat) (Option.some (Jvm.ClassFile.FieldType.object "java/lang/AbstractStringBuilder"))) ∈ wsG := wsG_of (wsT6_in 43 rfl) rfl
theorem w_1257 : (Jvm.Cond.methodLink "java/lang/AbstractStringBuilder" (245 : Nat) ({ cls := "java/lang/Integer", name := "stringSize", desc := "(I)I" } : Jvm.MethodName)) ∈ wsG := wsG_of (wsT6_in 44 rfl) rfl
theorem w_1258 : (Jvm.Cond.static ({ cls := "java/lang/Integer", name := "stringSize", desc := "(I)I" } : Jvm.MethodName)) ∈ wsG := wsG_of (wsT6_in 45 rfl) rfl
theorem w_1259 : (Jvm.Cond.code ({ cls := "java/lang/Integer", name := "stringSize", desc := "(I)I" } : Jvm.MethodName) prog_29_method_13_code (4 : Nat) (Option.some Jvm.ClassFile.FieldType.int)) ∈ wsG := wsG_of (wsT6_in 46 rfl) rfl
theorem w_1260 : (Jvm.Cond.methodLink "java/lang/AbstractStringBuilder" (248 : Nat) ({ cls := "java/lang/Integer", name := "getChars", desc := "(II[B)I" } : Jvm.MethodName)) ∈ wsG := wsG_of (wsT6_in 47 rfl) rfl
theorem w_1261 : (Jvm.Cond.static ({ cls := "java/lang/Integer", name := "getChars", desc := "(II[B)I" } : Jvm.MethodName)) ∈ wsG := wsG_of (wsT6_in 48 rfl) rfl
theorem w_1262 : (Jvm.Cond.code ({ cls := "java/lang/Integer", name := "getChars", desc := "(II[B)I" } : Jvm.MethodName) prog_29_method_12_code (7 : Nat) (Option.some Jvm.ClassFile.FieldType.int)) ∈ wsG := wsG_of (wsT6_in 49 rfl) rfl
theorem w_1263 : (Jvm.Cond.fieldLink "java/lang/Integer" (83 : Nat) "java/lang/Integer" "DigitOnes" "[B") ∈ wsG := wsG_of (wsT6_in 50 rfl) rfl
theorem w_1265 : (Jvm.Cond.fieldLink "java/lang/Integer" (87 : Nat) "java/lang/Integer" "DigitTens" "[B") ∈ wsG := wsG_of (wsT6_in 52 rfl) rfl
theorem w_1267 : (Jvm.Cond.methodLink "java/lang/AbstractStringBuilder" (251 : Nat) ({ cls := "java/lang/StringUTF16", name := "getChars", desc := "(III[B)I" } : Jvm.MethodName)) ∈ wsG := wsG_of (wsT6_in 54 rfl) rfl
theorem w_1268 : (Jvm.Cond.static ({ cls := "java/lang/StringUTF16", name := "getChars", desc := "(III[B)I" } : Jvm.MethodName)) ∈ wsG := wsG_of (wsT6_in 55 rfl) rfl
theorem w_1269 : (Jvm.Cond.code ({ cls := "java/lang/StringUTF16", name := "getChars", desc := "(III[B)I" } : Jvm.MethodName) prog_36_method_77_code (5 : Nat) (Option.some Jvm.ClassFile.FieldType.int)) ∈ wsG := wsG_of (wsT6_in 56 rfl) rfl
theorem w_1270 : (Jvm.Cond.methodLink "java/lang/StringUTF16" (393 : Nat) ({ cls := "java/lang/StringUTF16", name := "getChars", desc := "(II[B)I" } : Jvm.MethodName)) ∈ wsG := wsG_of (wsT6_in 57 rfl) rfl
theorem w_1271 : (Jvm.Cond.static ({ cls := "java/lang/StringUTF16", name := "getChars", desc := "(II[B)I" } : Jvm.MethodName)) ∈ wsG := wsG_of (wsT6_in 58 rfl) rfl
theorem w_1272 : (Jvm.Cond.code ({ cls := "java/lang/StringUTF16", name := "getChars", desc := "(II[B)I" } : Jvm.MethodName) prog_36_method_89_code (7 : Nat) (Option.some Jvm.ClassFile.FieldType.int)) ∈ wsG := wsG_of (wsT6_in 59 rfl) rfl
theorem w_1273 : (Jvm.Cond.fieldLink "java/lang/StringUTF16" (403 : Nat) "java/lang/Integer" "DigitOnes" "[B") ∈ wsG := wsG_of (wsT6_in 60 rfl) rfl
theorem w_1274 : (Jvm.Cond.fieldLink "java/lang/StringUTF16" (407 : Nat) "java/lang/Integer" "DigitTens" "[B") ∈ wsG := wsG_of (wsT6_in 61 rfl) rfl
theorem w_1275 : (Jvm.Cond.methodLink "MapHallLaw" (272 : Nat) ({ cls := "java/lang/StringBuilder", name := "toString", desc := "()Ljava/lang/String;" } : Jvm.MethodName)) ∈ wsG := wsG_of (wsT6_in 62 rfl) rfl
theorem w_1276 : (Jvm.Cond.instanceMethod ({ cls := "java/lang/StringBuilder", name := "toString", desc := "()Ljava/lang/String;" } : Jvm.MethodName)) ∈ wsG := wsG_of (wsT6_in 63 rfl) rfl
theorem w_1277 : (Jvm.Cond.selects "java/lang/StringBuilder" ({ cls := "java/lang/StringBuilder", name := "toString", desc := "()Ljava/lang/String;" } : Jvm.MethodName) ({ cls := "java/lang/StringBuilder", name := "toString", desc := "()Ljava/lang/String;" } : Jvm.MethodName)) ∈ wsG := wsG_of (wsT6_in 64 rfl) rfl
theorem w_1278 : (Jvm.Cond.code ({ cls := "java/lang/StringBuilder", name := "toString", desc := "()Ljava/lang/String;" } : Jvm.MethodName) prog_34_method_42_code (1 : Nat) (Option.some (Jvm.ClassFile.FieldType.object "java/lang/String"))) ∈ wsG := wsG_of (wsT6_in 65 rfl) rfl
theorem w_1279 : (Jvm.Cond.classLink "java/lang/StringBuilder" (18 : Nat) "java/lang/String") ∈ wsG := wsG_of (wsT6_in 66 rfl) rfl
theorem w_1280 : (Jvm.Cond.methodLink "java/lang/StringBuilder" (137 : Nat) ({ cls := "java/lang/String", name := "<init>", desc := "(Ljava/lang/StringBuilder;)V" } : Jvm.MethodName)) ∈ wsG := wsG_of (wsT6_in 67 rfl) rfl
theorem w_1281 : (Jvm.Cond.instanceMethod ({ cls := "java/lang/String", name := "<init>", desc := "(Ljava/lang/StringBuilder;)V" } : Jvm.MethodName)) ∈ wsG := wsG_of (wsT6_in 68 rfl) rfl
theorem w_1282 : (Jvm.Cond.code ({ cls := "java/lang/String", name := "<init>", desc := "(Ljava/lang/StringBuilder;)V" } : Jvm.MethodName) prog_33_method_53_code (2 : Nat) (Option.none : Option Jvm.ClassFile.FieldType)) ∈ wsG := wsG_of (wsT6_in 69 rfl) rfl
theorem w_1283 : (Jvm.Cond.methodLink "java/lang/String" (489 : Nat) ({ cls := "java/lang/String", name := "<init>", desc := "(Ljava/lang/AbstractStringBuilder;Ljava/lang/Void;)V" } : Jvm.MethodName)) ∈ wsG := wsG_of (wsT6_in 70 rfl) rfl
theorem w_1284 : (Jvm.Cond.instanceMethod ({ cls := "java/lang/String", name := "<init>", desc := "(Ljava/lang/AbstractStringBuilder;Ljava/lang/Void;)V" } : Jvm.MethodName)) ∈ wsG := wsG_of (wsT6_in 71 rfl) rfl
theorem w_1285 : (Jvm.Cond.code ({ cls := "java/lang/String", name := "<init>", desc := "(Ljava/lang/AbstractStringBuilder;Ljava/lang/Void;)V" } : Jvm.MethodName) prog_33_method_150_code (5 : Nat) (Option.none : Option Jvm.ClassFile.FieldType)) ∈ wsG := wsG_of (wsT6_in 72 rfl) rfl
theorem w_1286 : (Jvm.Cond.methodLink "java/lang/String" (1 : Nat) ({ cls := "java/lang/Object", name := "<init>", desc := "()V" } : Jvm.MethodName)) ∈ wsG := wsG_of (wsT6_in 73 rfl) rfl
theorem w_1287 : (Jvm.Cond.methodLink "java/lang/String" (552 : Nat) ({ cls := "java/lang/AbstractStringBuilder", name := "getValue", desc := "()[B" } : Jvm.MethodName)) ∈ wsG := wsG_of (wsT6_in 74 rfl) rfl
theorem w_1288 : (Jvm.Cond.instanceMethod ({ cls := "java/lang/AbstractStringBuilder", name := "getValue", desc := "()[B" } : Jvm.MethodName)) ∈ wsG := wsG_of (wsT6_in 75 rfl) rfl
theorem w_1290 : (Jvm.Cond.selects "java/lang/StringBuilder" ({ cls := "java/lang/AbstractStringBuilder", name := "getValue", desc := "()[B" } : Jvm.MethodName) ({ cls := "java/lang/AbstractStringBuilder", name := "getValue", desc := "()[B" } : Jvm.MethodName)) ∈ wsG := wsG_of (wsT6_in 77 rfl) rfl
theorem w_1291 : (Jvm.Cond.code ({ cls := "java/lang/AbstractStringBuilder", name := "getValue", desc := "()[B" } : Jvm.MethodName) prog_15_method_64_code (1 : Nat) (Option.some (Jvm.ClassFile.FieldType.array Jvm.ClassFile.FieldType.byte))) ∈ wsG := wsG_of (wsT6_in 78 rfl) rfl
theorem w_1292 : (Jvm.Cond.methodLink "java/lang/String" (549 : Nat) ({ cls := "java/lang/AbstractStringBuilder", name := "length", desc := "()I" } : Jvm.MethodName)) ∈ wsG := wsG_of (wsT6_in 79 rfl) rfl
theorem w_1293 : (Jvm.Cond.instanceMethod ({ cls := "java/lang/AbstractStringBuilder", name := "length", desc := "()I" } : Jvm.MethodName)) ∈ wsG := wsG_of (wsT6_in 80 rfl) rfl
theorem w_1295 : (Jvm.Cond.selects "java/lang/StringBuilder" ({ cls := "java/lang/AbstractStringBuilder", name := "length", desc := "()I" } : Jvm.MethodName) ({ cls := "java/lang/StringBuilder", name := "length", desc := "()I" } : Jvm.MethodName)) ∈ wsG := wsG_of (wsT6_in 82 rfl) rfl
theorem w_1296 : (Jvm.Cond.instanceMethod ({ cls := "java/lang/StringBuilder", name := "length", desc := "()I" } : Jvm.MethodName)) ∈ wsG := wsG_of (wsT6_in 83 rfl) rfl
theorem w_1297 : (Jvm.Cond.code ({ cls := "java/lang/StringBuilder", name := "length", desc := "()I" } : Jvm.MethodName) prog_34_method_93_code (1 : Nat) (Option.some Jvm.ClassFile.FieldType.int)) ∈ wsG := wsG_of (wsT6_in 84 rfl) rfl
theorem w_1298 : (Jvm.Cond.methodLink "java/lang/StringBuilder" (343 : Nat) ({ cls := "java/lang/AbstractStringBuilder", name := "length", desc := "()I" } : Jvm.MethodName)) ∈ wsG := wsG_of (wsT6_in 85 rfl) rfl
theorem w_1299 : (Jvm.Cond.code ({ cls := "java/lang/AbstractStringBuilder", name := "length", desc := "()I" } : Jvm.MethodName) prog_15_method_6_code (1 : Nat) (Option.some Jvm.ClassFile.FieldType.int)) ∈ wsG := wsG_of (wsT6_in 86 rfl) rfl
theorem w_1300 : (Jvm.Cond.methodLink "java/lang/String" (1047 : Nat) ({ cls := "java/lang/AbstractStringBuilder", name := "isLatin1", desc := "()Z" } : Jvm.MethodName)) ∈ wsG := wsG_of (wsT6_in 87 rfl) rfl
theorem w_1301 : (Jvm.Cond.methodLink "java/lang/String" (54 : Nat) ({ cls := "java/util/Arrays", name := "copyOfRange", desc := "([BII)[B" } : Jvm.MethodName)) ∈ wsG := wsG_of (wsT6_in 88 rfl) rfl
theorem w_1302 : (Jvm.Cond.static ({ cls := "java/util/Arrays", name := "copyOfRange", desc := "([BII)[B" } : Jvm.MethodName)) ∈ wsG := wsG_of (wsT6_in 89 rfl) rfl
theorem w_1303 : (Jvm.Cond.code ({ cls := "java/util/Arrays", name := "copyOfRange", desc := "([BII)[B" } : Jvm.MethodName) prog_42_method_132_code (3 : Nat) (Option.some (Jvm.ClassFile.FieldType.array Jvm.ClassFile.FieldType.byte))) ∈ wsG := wsG_of (wsT6_in 90 rfl) rfl
theorem w_1304 : (Jvm.Cond.methodLink "java/util/Arrays" (339 : Nat) ({ cls := "java/util/Arrays", name := "copyOfRangeByte", desc := "([BII)[B" } : Jvm.MethodName)) ∈ wsG := wsG_of (wsT6_in 91 rfl) rfl
theorem w_1305 : (Jvm.Cond.static ({ cls := "java/util/Arrays", name := "copyOfRangeByte", desc := "([BII)[B" } : Jvm.MethodName)) ∈ wsG := wsG_of (wsT6_in 92 rfl) rfl
theorem w_1306 : (Jvm.Cond.code ({ cls := "java/util/Arrays", name := "copyOfRangeByte", desc := "([BII)[B" } : Jvm.MethodName) prog_42_method_133_code (5 : Nat) (Option.some (Jvm.ClassFile.FieldType.array Jvm.ClassFile.FieldType.byte))) ∈ wsG := wsG_of (wsT6_in 93 rfl) rfl
theorem w_1307 : (Jvm.Cond.methodLink "java/util/Arrays" (343 : Nat) ({ cls := "java/util/Arrays", name := "checkLength", desc := "(II)V" } : Jvm.MethodName)) ∈ wsG := wsG_of (wsT6_in 94 rfl) rfl
theorem w_1308 : (Jvm.Cond.static ({ cls := "java/util/Arrays", name := "checkLength", desc := "(II)V" } : Jvm.MethodName)) ∈ wsG := wsG_of (wsT6_in 95 rfl) rfl
theorem w_1309 : (Jvm.Cond.code ({ cls := "java/util/Arrays", name := "checkLength", desc := "(II)V" } : Jvm.MethodName) prog_42_method_131_code (2 : Nat) (Option.none : Option Jvm.ClassFile.FieldType)) ∈ wsG := wsG_of (wsT6_in 96 rfl) rfl
theorem w_1310 : (Jvm.Cond.classLink "java/util/Arrays" (43 : Nat) "java/lang/IllegalArgumentException") ∈ wsG := wsG_of (wsT6_in 97 rfl) rfl
theorem w_1311 : (Jvm.Cond.classLink "java/util/Arrays" (45 : Nat) "java/lang/StringBuilder") ∈ wsG := wsG_of (wsT6_in 98 rfl) rfl
theorem w_1312 : (Jvm.Cond.methodLink "java/util/Arrays" (47 : Nat) ({ cls := "java/lang/StringBuilder", name := "<init>", desc := "()V" } : Jvm.MethodName)) ∈ wsG := wsG_of (wsT6_in 99 rfl) rfl
theorem w_1313 : (Jvm.Cond.methodLink "java/util/Arrays" (54 : Nat) ({ cls := "java/lang/StringBuilder", name := "append", desc := "(I)Ljava/lang/StringBuilder;" } : Jvm.MethodName)) ∈ wsG := wsG_of (wsT6_in 100 rfl) rfl
theorem w_1315 : (Jvm.Cond.methodLink "java/util/Arrays" (50 : Nat) ({ cls := "java/lang/StringBuilder", name := "append", desc := "(Ljava/lang/String;)Ljava/lang/StringBuilder;" } : Jvm.MethodName)) ∈ wsG := wsG_of (wsT6_in 102 rfl) rfl
theorem w_1316 : (Jvm.Cond.methodLink "java/util/Arrays" (61 : Nat) ({ cls := "java/lang/StringBuilder", name := "toString", desc := "()Ljava/lang/String;" } : Jvm.MethodName)) ∈ wsG := wsG_of (wsT6_in 103 rfl) rfl
theorem w_1317 : (Jvm.Cond.methodLink "java/util/Arrays" (65 : Nat) ({ cls := "java/lang/IllegalArgumentException", name := "<init>", desc := "(Ljava/lang/String;)V" } : Jvm.MethodName)) ∈ wsG := wsG_of (wsT6_in 104 rfl) rfl
theorem w_1318 : (Jvm.Cond.methodLink "java/lang/String" (1051 : Nat) ({ cls := "java/lang/StringUTF16", name := "compress", desc := "([BII)[B" } : Jvm.MethodName)) ∈ wsG := wsG_of (wsT6_in 105 rfl) rfl
theorem w_1319 : (Jvm.Cond.static ({ cls := "java/lang/StringUTF16", name := "compress", desc := "([BII)[B" } : Jvm.MethodName)) ∈ wsG := wsG_of (wsT6_in 106 rfl) rfl
theorem w_1320 : (Jvm.Cond.code ({ cls := "java/lang/StringUTF16", name := "compress", desc := "([BII)[B" } : Jvm.MethodName) prog_36_method_17_code (6 : Nat) (Option.some (Jvm.ClassFile.FieldType.array Jvm.ClassFile.FieldType.byte))) ∈ wsG := wsG_of (wsT6_in 107 rfl) rfl
theorem w_1321 : (Jvm.Cond.methodLink "java/lang/StringUTF16" (123 : Nat) ({ cls := "java/lang/StringUTF16", name := "compress", desc := "([BI[BII)I" } : Jvm.MethodName)) ∈ wsG := wsG_of (wsT6_in 108 rfl) rfl
theorem w_1322 : (Jvm.Cond.static ({ cls := "java/lang/StringUTF16", name := "compress", desc := "([BI[BII)I" } : Jvm.MethodName)) ∈ wsG := wsG_of (wsT6_in 109 rfl) rfl
theorem w_1323 : (Jvm.Cond.code ({ cls := "java/lang/StringUTF16", name := "compress", desc := "([BI[BII)I" } : Jvm.MethodName) prog_36_method_22_code (7 : Nat) (Option.some Jvm.ClassFile.FieldType.int)) ∈ wsG := wsG_of (wsT6_in 110 rfl) rfl
theorem w_1324 : (Jvm.Cond.methodLink "java/lang/StringUTF16" (126 : Nat) ({ cls := "java/util/Arrays", name := "copyOfRange", desc := "([BII)[B" } : Jvm.MethodName)) ∈ wsG := wsG_of (wsT6_in 111 rfl) rfl
theorem w_1325 : (Jvm.Cond.methodLink "java/lang/String" (47 : Nat) ({ cls := "java/lang/StringUTF16", name := "coderFromArrayLen", desc := "([BI)B" } : Jvm.MethodName)) ∈ wsG := wsG_of (wsT6_in 112 rfl) rfl
theorem w_1326 : (Jvm.Cond.static ({ cls := "java/lang/StringUTF16", name := "coderFromArrayLen", desc := "([BI)B" } : Jvm.MethodName)) ∈ wsG := wsG_of (wsT6_in 113 rfl) rfl
theorem w_1327 : (Jvm.Cond.code ({ cls := "java/lang/StringUTF16", name := "coderFromArrayLen", desc := "([BI)B" } : Jvm.MethodName) prog_36_method_15_code (2 : Nat) (Option.some Jvm.ClassFile.FieldType.byte)) ∈ wsG := wsG_of (wsT6_in 114 rfl) rfl
theorem w_1328 : (Jvm.Cond.fieldLink "java/lang/String" (9 : Nat) "java/lang/String" "value" "[B") ∈ wsG := wsG_of (wsT6_in 115 rfl) rfl
theorem w_1329 : (Jvm.Cond.fieldLink "java/lang/String" (15 : Nat) "java/lang/String" "coder" "B") ∈ wsG := wsG_of (wsT6_in 116 rfl) rfl
theorem w_1330 : (Jvm.Cond.lays "java/lang/String" "java/lang/String" "hash" "I") ∈ wsG := wsG_of (wsT6_in 117 rfl) rfl
theorem w_1332 : (Jvm.Cond.lays "java/lang/String" "java/lang/String" "hashIsZero" "Z") ∈ wsG := wsG_of (wsT6_in 119 rfl) rfl
theorem w_1337 : (Jvm.Cond.methodLink "MapHallLaw" (280 : Nat) ({ cls := "MapHallLaw", name := "runs", desc := "(LMapHall;Ljava/lang/String;)I" } : Jvm.MethodName)) ∈ wsG := wsG_of (wsT6_in 124 rfl) rfl
theorem w_1338 : (Jvm.Cond.static ({ cls := "MapHallLaw", name := "runs", desc := "(LMapHall;Ljava/lang/String;)I" } : Jvm.MethodName)) ∈ wsG := wsG_of (wsT6_in 125 rfl) rfl
theorem w_1339 : (Jvm.Cond.code ({ cls := "MapHallLaw", name := "runs", desc := "(LMapHall;Ljava/lang/String;)I" } : Jvm.MethodName) method_42_code (3 : Nat) (Option.some Jvm.ClassFile.FieldType.int)) ∈ wsG := wsG_of (wsT6_in 126 rfl) rfl
theorem w_1340 : (Jvm.Cond.methodLink "MapHallLaw" (150 : Nat) ({ cls := "java/lang/String", name := "length", desc := "()I" } : Jvm.MethodName)) ∈ wsG := wsG_of (wsT6_in 127 rfl) rfl
theorem w_1341 : (Jvm.Cond.methodLink "MapHallLaw" (352 : Nat) ({ cls := "MapHallLaw", name := "thrown", desc := "(LMapHall;)Z" } : Jvm.MethodName)) ∈ wsG := wsG_of (wsT6_in 128 rfl) rfl
theorem w_1342 : (Jvm.Cond.static ({ cls := "MapHallLaw", name := "thrown", desc := "(LMapHall;)Z" } : Jvm.MethodName)) ∈ wsG := wsG_of (wsT6_in 129 rfl) rfl
theorem w_1343 : (Jvm.Cond.code ({ cls := "MapHallLaw", name := "thrown", desc := "(LMapHall;)Z" } : Jvm.MethodName) method_47_code (7 : Nat) (Option.some Jvm.ClassFile.FieldType.boolean)) ∈ wsG := wsG_of (wsT6_in 130 rfl) rfl
theorem w_1344 : (Jvm.Cond.methodLink "MapHallLaw" (293 : Nat) ({ cls := "MapHallLaw", name := "cellOf", desc := "(LMapHall;I)I" } : Jvm.MethodName)) ∈ wsG := wsG_of (wsT6_in 131 rfl) rfl
theorem w_1345 : (Jvm.Cond.static ({ cls := "MapHallLaw", name := "cellOf", desc := "(LMapHall;I)I" } : Jvm.MethodName)) ∈ wsG := wsG_of (wsT6_in 132 rfl) rfl
theorem w_1346 : (Jvm.Cond.codeWith ({ cls := "MapHallLaw", name := "cellOf", desc := "(LMapHall;I)I" } : Jvm.MethodName) method_19_code (3 : Nat) (Option.some Jvm.ClassFile.FieldType.int) [((0 : Nat), (5 : Nat), (6 : Nat), (21 : Nat)), ((0 : Nat), (5 : Nat), (11 : Nat), (42 : Nat))]) ∈ wsG := wsG_of (wsT6_in 133 rfl) rfl
theorem w_1347 : (Jvm.Cond.methodLink "MapHallLaw" (72 : Nat) ({ cls := "MapHall", name := "cellOf", desc := "(I)I" } : Jvm.MethodName)) ∈ wsG := wsG_of (wsT6_in 134 rfl) rfl
theorem w_1348 : (Jvm.Cond.instanceMethod ({ cls := "MapHall", name := "cellOf", desc := "(I)I" } : Jvm.MethodName)) ∈ wsG := wsG_of (wsT6_in 135 rfl) rfl
theorem w_1349 : (Jvm.Cond.selects "MapHall" ({ cls := "MapHall", name := "cellOf", desc := "(I)I" } : Jvm.MethodName) ({ cls := "MapHall", name := "cellOf", desc := "(I)I" } : Jvm.MethodName)) ∈ wsG := wsG_of (wsT6_in 136 rfl) rfl
theorem w_1350 : (Jvm.Cond.code ({ cls := "MapHall", name := "cellOf", desc := "(I)I" } : Jvm.MethodName) prog_1_method_18_code (3 : Nat) (Option.some Jvm.ClassFile.FieldType.int)) ∈ wsG := wsG_of (wsT6_in 137 rfl) rfl
theorem w_1351 : (Jvm.Cond.methodLink "MapHall" (142 : Nat) ({ cls := "MapHall$Sheet", name := "onTable", desc := "()Z" } : Jvm.MethodName)) ∈ wsG := wsG_of (wsT6_in 138 rfl) rfl
theorem w_1353 : (Jvm.Cond.methodLink "MapHallLaw" (297 : Nat) ({ cls := "MapHallLaw", name := "matches", desc := "(LMapHall;III)I" } : Jvm.MethodName)) ∈ wsG := wsG_of (wsT6_in 140 rfl) rfl
theorem w_1354 : (Jvm.Cond.static ({ cls := "MapHallLaw", name := "matches", desc := "(LMapHall;III)I" } : Jvm.MethodName)) ∈ wsG := wsG_of (wsT6_in 141 rfl) rfl
theorem w_1355 : (Jvm.Cond.codeWith ({ cls := "MapHallLaw", name := "matches", desc := "(LMapHall;III)I" } : Jvm.MethodName) method_23_code (5 : Nat) (Option.some Jvm.ClassFile.FieldType.int) [((0 : Nat), (15 : Nat), (16 : Nat), (21 : Nat)), ((0 : Nat), (15 : Nat), (22 : Nat), (13 : Nat)), ((0 : Nat), (15 : Nat), (28 : Nat), (15 : Nat))]) ∈ wsG := wsG_of (wsT6_in 142 rfl) rfl
theorem w_1356 : (Jvm.Cond.methodLink "MapHallLaw" (84 : Nat) ({ cls := "MapHall", name := "matches", desc := "(III)Z" } : Jvm.MethodName)) ∈ wsG := wsG_of (wsT6_in 143 rfl) rfl
theorem w_1357 : (Jvm.Cond.instanceMethod ({ cls := "MapHall", name := "matches", desc := "(III)Z" } : Jvm.MethodName)) ∈ wsG := wsG_of (wsT6_in 144 rfl) rfl
theorem w_1358 : (Jvm.Cond.selects "MapHall" ({ cls := "MapHall", name := "matches", desc := "(III)Z" } : Jvm.MethodName) ({ cls := "MapHall", name := "matches", desc := "(III)Z" } : Jvm.MethodName)) ∈ wsG := wsG_of (wsT6_in 145 rfl) rfl
theorem w_1359 : (Jvm.Cond.code ({ cls := "MapHall", name := "matches", desc := "(III)Z" } : Jvm.MethodName) prog_1_method_24_code (5 : Nat) (Option.some Jvm.ClassFile.FieldType.boolean)) ∈ wsG := wsG_of (wsT6_in 146 rfl) rfl
theorem w_1360 : (Jvm.Cond.methodLink "MapHall" (179 : Nat) ({ cls := "MapHall", name := "isTurns", desc := "(I)Z" } : Jvm.MethodName)) ∈ wsG := wsG_of (wsT6_in 147 rfl) rfl
theorem w_1363 : (Jvm.Cond.methodLink "MapHallLaw" (299 : Nat) ({ cls := "MapHallLaw", name := "crease", desc := "(LMapHall;II)I" } : Jvm.MethodName)) ∈ wsG := wsG_of (wsT6_in 150 rfl) rfl
theorem w_1364 : (Jvm.Cond.static ({ cls := "MapHallLaw", name := "crease", desc := "(LMapHall;II)I" } : Jvm.MethodName)) ∈ wsG := wsG_of (wsT6_in 151 rfl) rfl
theorem w_1365 : (Jvm.Cond.codeWith ({ cls := "MapHallLaw", name := "crease", desc := "(LMapHall;II)I" } : Jvm.MethodName) method_18_code (4 : Nat) (Option.some Jvm.ClassFile.FieldType.int) [((0 : Nat), (6 : Nat), (7 : Nat), (21 : Nat))]) ∈ wsG := wsG_of (wsT6_in 152 rfl) rfl
theorem w_1366 : (Jvm.Cond.methodLink "MapHallLaw" (68 : Nat) ({ cls := "MapHall", name := "crease", desc := "(II)C" } : Jvm.MethodName)) ∈ wsG := wsG_of (wsT6_in 153 rfl) rfl
theorem w_1367 : (Jvm.Cond.instanceMethod ({ cls := "MapHall", name := "crease", desc := "(II)C" } : Jvm.MethodName)) ∈ wsG := wsG_of (wsT6_in 154 rfl) rfl
theorem w_1368 : (Jvm.Cond.selects "MapHall" ({ cls := "MapHall", name := "crease", desc := "(II)C" } : Jvm.MethodName) ({ cls := "MapHall", name := "crease", desc := "(II)C" } : Jvm.MethodName)) ∈ wsG := wsG_of (wsT6_in 155 rfl) rfl
theorem w_1369 : (Jvm.Cond.code ({ cls := "MapHall", name := "crease", desc := "(II)C" } : Jvm.MethodName) prog_1_method_17_code (4 : Nat) (Option.some Jvm.ClassFile.FieldType.char)) ∈ wsG := wsG_of (wsT6_in 156 rfl) rfl
theorem w_1371 : (Jvm.Cond.methodLink "MapHallLaw" (302 : Nat) ({ cls := "MapHallLaw", name := "onTop", desc := "(LMapHall;II)I" } : Jvm.MethodName)) ∈ wsG := wsG_of (wsT6_in 158 rfl) rfl
theorem w_1372 : (Jvm.Cond.static ({ cls := "MapHallLaw", name := "onTop", desc := "(LMapHall;II)I" } : Jvm.MethodName)) ∈ wsG := wsG_of (wsT6_in 159 rfl) rfl
theorem w_1373 : (Jvm.Cond.codeWith ({ cls := "MapHallLaw", name := "onTop", desc := "(LMapHall;II)I" } : Jvm.MethodName) method_29_code (4 : Nat) (Option.some Jvm.ClassFile.FieldType.int) [((0 : Nat), (14 : Nat), (15 : Nat), (21 : Nat))]) ∈ wsG := wsG_of (wsT6_in 160 rfl) rfl
theorem w_1374 : (Jvm.Cond.methodLink "MapHallLaw" (104 : Nat) ({ cls := "MapHall", name := "canBeOnTop", desc := "(II)Z" } : Jvm.MethodName)) ∈ wsG := wsG_of (wsT6_in 161 rfl) rfl
theorem w_1375 : (Jvm.Cond.instanceMethod ({ cls := "MapHall", name := "canBeOnTop", desc := "(II)Z" } : Jvm.MethodName)) ∈ wsG := wsG_of (wsT6_in 162 rfl) rfl
theorem w_1376 : (Jvm.Cond.selects "MapHall" ({ cls := "MapHall", name := "canBeOnTop", desc := "(II)Z" } : Jvm.MethodName) ({ cls := "MapHall", name := "canBeOnTop", desc := "(II)Z" } : Jvm.MethodName)) ∈ wsG := wsG_of (wsT6_in 163 rfl) rfl
theorem w_1377 : (Jvm.Cond.code ({ cls := "MapHall", name := "canBeOnTop", desc := "(II)Z" } : Jvm.MethodName) prog_1_method_30_code (4 : Nat) (Option.some Jvm.ClassFile.FieldType.boolean)) ∈ wsG := wsG_of (wsT6_in 164 rfl) rfl
theorem w_1379 : (Jvm.Cond.methodLink "MapHallLaw" (305 : Nat) ({ cls := "MapHallLaw", name := "border", desc := "(LMapHall;II)I" } : Jvm.MethodName)) ∈ wsG := wsG_of (wsT6_in 166 rfl) rfl
theorem w_1380 : (Jvm.Cond.static ({ cls := "MapHallLaw", name := "border", desc := "(LMapHall;II)I" } : Jvm.MethodName)) ∈ wsG := wsG_of (wsT6_in 167 rfl) rfl
theorem w_1381 : (Jvm.Cond.codeWith ({ cls := "MapHallLaw", name := "border", desc := "(LMapHall;II)I" } : Jvm.MethodName) method_13_code (4 : Nat) (Option.some Jvm.ClassFile.FieldType.int) [((0 : Nat), (6 : Nat), (7 : Nat), (21 : Nat)), ((0 : Nat), (6 : Nat), (12 : Nat), (13 : Nat))]) ∈ wsG := wsG_of (wsT6_in 168 rfl) rfl
theorem w_1382 : (Jvm.Cond.methodLink "MapHallLaw" (51 : Nat) ({ cls := "MapHall", name := "border", desc := "(II)I" } : Jvm.MethodName)) ∈ wsG := wsG_of (wsT6_in 169 rfl) rfl
theorem w_1383 : (Jvm.Cond.instanceMethod ({ cls := "MapHall", name := "border", desc := "(II)I" } : Jvm.MethodName)) ∈ wsG := wsG_of (wsT6_in 170 rfl) rfl
theorem w_1384 : (Jvm.Cond.selects "MapHall" ({ cls := "MapHall", name := "border", desc := "(II)I" } : Jvm.MethodName) ({ cls := "MapHall", name := "border", desc := "(II)I" } : Jvm.MethodName)) ∈ wsG := wsG_of (wsT6_in 171 rfl) rfl
theorem w_1385 : (Jvm.Cond.code ({ cls := "MapHall", name := "border", desc := "(II)I" } : Jvm.MethodName) prog_1_method_12_code (4 : Nat) (Option.some Jvm.ClassFile.FieldType.int)) ∈ wsG := wsG_of (wsT6_in 172 rfl) rfl
theorem w_1386 : (Jvm.Cond.methodLink "MapHall" (109 : Nat) ({ cls := "MapHall", name := "demandSide", desc := "(I)V" } : Jvm.MethodName)) ∈ wsG := wsG_of (wsT6_in 173 rfl) rfl
theorem w_1387 : (Jvm.Cond.static ({ cls := "MapHall", name := "demandSide", desc := "(I)V" } : Jvm.MethodName)) ∈ wsG := wsG_of (wsT6_in 174 rfl) rfl
theorem w_1388 : (Jvm.Cond.code ({ cls := "MapHall", name := "demandSide", desc := "(I)V" } : Jvm.MethodName) prog_1_method_59_code (1 : Nat) (Option.none : Option Jvm.ClassFile.FieldType)) ∈ wsG := wsG_of (wsT6_in 175 rfl) rfl
theorem w_1390 : (Jvm.Cond.methodLink "MapHall" (113 : Nat) ({ cls := "MapHall$Sheet", name := "borderWhenTurned", desc := "(II)I" } : Jvm.MethodName)) ∈ wsG := wsG_of (wsT6_in 177 rfl) rfl
theorem w_1391 : (Jvm.Cond.methodLink "MapHallLaw" (311 : Nat) ({ cls := "MapHallLaw", name := "borderIn", desc := "(LMapHall;II)I" } : Jvm.MethodName)) ∈ wsG := wsG_of (wsT6_in 178 rfl) rfl
theorem w_1392 : (Jvm.Cond.static ({ cls := "MapHallLaw", name := "borderIn", desc := "(LMapHall;II)I" } : Jvm.MethodName)) ∈ wsG := wsG_of (wsT6_in 179 rfl) rfl
theorem w_1393 : (Jvm.Cond.codeWith ({ cls := "MapHallLaw", name := "borderIn", desc := "(LMapHall;II)I" } : Jvm.MethodName) method_22_code (4 : Nat) (Option.some Jvm.ClassFile.FieldType.int) [((0 : Nat), (6 : Nat), (7 : Nat), (21 : Nat)), ((0 : Nat), (6 : Nat), (12 : Nat), (13 : Nat)), ((0 : Nat), (6 : Nat), (17 : Nat), (42 : Nat))]) ∈ wsG := wsG_of (wsT6_in 180 rfl) rfl
theorem w_1394 : (Jvm.Cond.methodLink "MapHallLaw" (81 : Nat) ({ cls := "MapHall", name := "borderIn", desc := "(II)I" } : Jvm.MethodName)) ∈ wsG := wsG_of (wsT6_in 181 rfl) rfl
theorem w_1395 : (Jvm.Cond.instanceMethod ({ cls := "MapHall", name := "borderIn", desc := "(II)I" } : Jvm.MethodName)) ∈ wsG := wsG_of (wsT6_in 182 rfl) rfl
theorem w_1396 : (Jvm.Cond.selects "MapHall" ({ cls := "MapHall", name := "borderIn", desc := "(II)I" } : Jvm.MethodName) ({ cls := "MapHall", name := "borderIn", desc := "(II)I" } : Jvm.MethodName)) ∈ wsG := wsG_of (wsT6_in 183 rfl) rfl
theorem w_1397 : (Jvm.Cond.code ({ cls := "MapHall", name := "borderIn", desc := "(II)I" } : Jvm.MethodName) prog_1_method_21_code (3 : Nat) (Option.some Jvm.ClassFile.FieldType.int)) ∈ wsG := wsG_of (wsT6_in 184 rfl) rfl
theorem w_1398 : (Jvm.Cond.methodLink "MapHall" (169 : Nat) ({ cls := "MapHall$Sheet", name := "borderAsLaid", desc := "(I)I" } : Jvm.MethodName)) ∈ wsG := wsG_of (wsT6_in 185 rfl) rfl
theorem w_1399 : (Jvm.Cond.methodLink "MapHallLaw" (313 : Nat) ({ cls := "MapHallLaw", name := "pointsOf", desc := "(LMapHall;I)I" } : Jvm.MethodName)) ∈ wsG := wsG_of (wsT6_in 186 rfl) rfl
theorem w_1400 : (Jvm.Cond.static ({ cls := "MapHallLaw", name := "pointsOf", desc := "(LMapHall;I)I" } : Jvm.MethodName)) ∈ wsG := wsG_of (wsT6_in 187 rfl) rfl
theorem w_1401 : (Jvm.Cond.codeWith ({ cls := "MapHallLaw", name := "pointsOf", desc := "(LMapHall;I)I" } : Jvm.MethodName) method_30_code (3 : Nat) (Option.some Jvm.ClassFile.FieldType.int) [((0 : Nat), (5 : Nat), (6 : Nat), (21 : Nat)), ((0 : Nat), (5 : Nat), (11 : Nat), (42 : Nat))]) ∈ wsG := wsG_of (wsT6_in 188 rfl) rfl
theorem w_1402 : (Jvm.Cond.methodLink "MapHallLaw" (108 : Nat) ({ cls := "MapHall", name := "pointsOf", desc := "(I)I" } : Jvm.MethodName)) ∈ wsG := wsG_of (wsT6_in 189 rfl) rfl
theorem w_1403 : (Jvm.Cond.instanceMethod ({ cls := "MapHall", name := "pointsOf", desc := "(I)I" } : Jvm.MethodName)) ∈ wsG := wsG_of (wsT6_in 190 rfl) rfl
theorem w_1404 : (Jvm.Cond.selects "MapHall" ({ cls := "MapHall", name := "pointsOf", desc := "(I)I" } : Jvm.MethodName) ({ cls := "MapHall", name := "pointsOf", desc := "(I)I" } : Jvm.MethodName)) ∈ wsG := wsG_of (wsT6_in 191 rfl) rfl
theorem w_1405 : (Jvm.Cond.code ({ cls := "MapHall", name := "pointsOf", desc := "(I)I" } : Jvm.MethodName) prog_1_method_31_code (2 : Nat) (Option.some Jvm.ClassFile.FieldType.int)) ∈ wsG := wsG_of (wsT6_in 192 rfl) rfl
theorem w_1406 : (Jvm.Cond.methodLink "MapHall" (223 : Nat) ({ cls := "MapHall$Points", name := "inCell", desc := "(LMapHall$State;I)I" } : Jvm.MethodName)) ∈ wsG := wsG_of (wsT6_in 193 rfl) rfl
theorem w_1407 : (Jvm.Cond.methodLink "MapHallLaw" (315 : Nat) ({ cls := "MapHallLaw", name := "groupSize", desc := "(LMapHall;I)I" } : Jvm.MethodName)) ∈ wsG := wsG_of (wsT6_in 194 rfl) rfl
theorem w_1408 : (Jvm.Cond.static ({ cls := "MapHallLaw", name := "groupSize", desc := "(LMapHall;I)I" } : Jvm.MethodName)) ∈ wsG := wsG_of (wsT6_in 195 rfl) rfl
theorem w_1409 : (Jvm.Cond.codeWith ({ cls := "MapHallLaw", name := "groupSize", desc := "(LMapHall;I)I" } : Jvm.MethodName) method_31_code (3 : Nat) (Option.some Jvm.ClassFile.FieldType.int) [((0 : Nat), (5 : Nat), (6 : Nat), (21 : Nat)), ((0 : Nat), (5 : Nat), (11 : Nat), (42 : Nat))]) ∈ wsG := wsG_of (wsT6_in 196 rfl) rfl
theorem w_1410 : (Jvm.Cond.methodLink "MapHallLaw" (111 : Nat) ({ cls := "MapHall", name := "groupSize", desc := "(I)I" } : Jvm.MethodName)) ∈ wsG := wsG_of (wsT6_in 197 rfl) rfl
theorem w_1411 : (Jvm.Cond.instanceMethod ({ cls := "MapHall", name := "groupSize", desc := "(I)I" } : Jvm.MethodName)) ∈ wsG := wsG_of (wsT6_in 198 rfl) rfl
theorem w_1412 : (Jvm.Cond.selects "MapHall" ({ cls := "MapHall", name := "groupSize", desc := "(I)I" } : Jvm.MethodName) ({ cls := "MapHall", name := "groupSize", desc := "(I)I" } : Jvm.MethodName)) ∈ wsG := wsG_of (wsT6_in 199 rfl) rfl
theorem w_1413 : (Jvm.Cond.code ({ cls := "MapHall", name := "groupSize", desc := "(I)I" } : Jvm.MethodName) prog_1_method_34_code (2 : Nat) (Option.some Jvm.ClassFile.FieldType.int)) ∈ wsG := wsG_of (wsT6_in 200 rfl) rfl
theorem w_1414 : (Jvm.Cond.methodLink "MapHall" (236 : Nat) ({ cls := "MapHall$Groups", name := "cellsConnectedTo", desc := "(LMapHall$State;I)I" } : Jvm.MethodName)) ∈ wsG := wsG_of (wsT6_in 201 rfl) rfl
theorem w_1415 : (Jvm.Cond.methodLink "MapHall" (239 : Nat) ({ cls := "java/lang/Integer", name := "bitCount", desc := "(I)I" } : Jvm.MethodName)) ∈ wsG := wsG_of (wsT6_in 202 rfl) rfl
theorem w_1416 : (Jvm.Cond.static ({ cls := "java/lang/Integer", name := "bitCount", desc := "(I)I" } : Jvm.MethodName)) ∈ wsG := wsG_of (wsT6_in 203 rfl) rfl
theorem w_1417 : (Jvm.Cond.code ({ cls := "java/lang/Integer", name := "bitCount", desc := "(I)I" } : Jvm.MethodName) prog_29_method_49_code (1 : Nat) (Option.some Jvm.ClassFile.FieldType.int)) ∈ wsG := wsG_of (wsT6_in 204 rfl) rfl
theorem w_1418 : (Jvm.Cond.constant "java/lang/Integer" (265 : Nat) (1431655765 : Int32)) ∈ wsG := wsG_of (wsT6_in 205 rfl) rfl
theorem w_1419 : (Jvm.Cond.constant "java/lang/Integer" (266 : Nat) (858993459 : Int32)) ∈ wsG := wsG_of (wsT6_in 206 rfl) rfl
theorem w_1420 : (Jvm.Cond.constant "java/lang/Integer" (267 : Nat) (252645135 : Int32)) ∈ wsG := wsG_of (wsT6_in 207 rfl) rfl
theorem w_1421 : (Jvm.Cond.methodLink "MapHallLaw" (317 : Nat) ({ cls := "MapHallLaw", name := "kind", desc := "(LMapHall;I)I" } : Jvm.MethodName)) ∈ wsG := wsG_of (wsT6_in 208 rfl) rfl
theorem w_1422 : (Jvm.Cond.static ({ cls := "MapHallLaw", name := "kind", desc := "(LMapHall;I)I" } : Jvm.MethodName)) ∈ wsG := wsG_of (wsT6_in 209 rfl) rfl
theorem w_1423 : (Jvm.Cond.codeWith ({ cls := "MapHallLaw", name := "kind", desc := "(LMapHall;I)I" } : Jvm.MethodName) method_12_code (3 : Nat) (Option.some Jvm.ClassFile.FieldType.int) [((0 : Nat), (5 : Nat), (6 : Nat), (21 : Nat))]) ∈ wsG := wsG_of (wsT6_in 210 rfl) rfl
theorem w_1424 : (Jvm.Cond.methodLink "MapHallLaw" (47 : Nat) ({ cls := "MapHall", name := "kind", desc := "(I)C" } : Jvm.MethodName)) ∈ wsG := wsG_of (wsT6_in 211 rfl) rfl
theorem w_1425 : (Jvm.Cond.instanceMethod ({ cls := "MapHall", name := "kind", desc := "(I)C" } : Jvm.MethodName)) ∈ wsG := wsG_of (wsT6_in 212 rfl) rfl
theorem w_1426 : (Jvm.Cond.selects "MapHall" ({ cls := "MapHall", name := "kind", desc := "(I)C" } : Jvm.MethodName) ({ cls := "MapHall", name := "kind", desc := "(I)C" } : Jvm.MethodName)) ∈ wsG := wsG_of (wsT6_in 213 rfl) rfl
theorem w_1427 : (Jvm.Cond.code ({ cls := "MapHall", name := "kind", desc := "(I)C" } : Jvm.MethodName) prog_1_method_11_code (2 : Nat) (Option.some Jvm.ClassFile.FieldType.char)) ∈ wsG := wsG_of (wsT6_in 214 rfl) rfl
theorem w_1428 : (Jvm.Cond.methodLink "MapHallLaw" (319 : Nat) ({ cls := "MapHallLaw", name := "isTorn", desc := "(LMapHall;I)I" } : Jvm.MethodName)) ∈ wsG := wsG_of (wsT6_in 215 rfl) rfl
theorem w_1429 : (Jvm.Cond.static ({ cls := "MapHallLaw", name := "isTorn", desc := "(LMapHall;I)I" } : Jvm.MethodName)) ∈ wsG := wsG_of (wsT6_in 216 rfl) rfl
theorem w_1430 : (Jvm.Cond.codeWith ({ cls := "MapHallLaw", name := "isTorn", desc := "(LMapHall;I)I" } : Jvm.MethodName) method_15_code (3 : Nat) (Option.some Jvm.ClassFile.FieldType.int) [((0 : Nat), (13 : Nat), (14 : Nat), (21 : Nat))]) ∈ wsG := wsG_of (wsT6_in 217 rfl) rfl
theorem w_1431 : (Jvm.Cond.methodLink "MapHallLaw" (58 : Nat) ({ cls := "MapHall", name := "isTorn", desc := "(I)Z" } : Jvm.MethodName)) ∈ wsG := wsG_of (wsT6_in 218 rfl) rfl
theorem w_1432 : (Jvm.Cond.instanceMethod ({ cls := "MapHall", name := "isTorn", desc := "(I)Z" } : Jvm.MethodName)) ∈ wsG := wsG_of (wsT6_in 219 rfl) rfl
theorem w_1433 : (Jvm.Cond.selects "MapHall" ({ cls := "MapHall", name := "isTorn", desc := "(I)Z" } : Jvm.MethodName) ({ cls := "MapHall", name := "isTorn", desc := "(I)Z" } : Jvm.MethodName)) ∈ wsG := wsG_of (wsT6_in 220 rfl) rfl
theorem w_1434 : (Jvm.Cond.code ({ cls := "MapHall", name := "isTorn", desc := "(I)Z" } : Jvm.MethodName) prog_1_method_14_code (2 : Nat) (Option.some Jvm.ClassFile.FieldType.boolean)) ∈ wsG := wsG_of (wsT6_in 221 rfl) rfl
theorem w_1435 : (Jvm.Cond.methodLink "MapHall" (120 : Nat) ({ cls := "MapHall$Sheet", name := "torn", desc := "()Z" } : Jvm.MethodName)) ∈ wsG := wsG_of (wsT6_in 222 rfl) rfl
theorem w_1436 : (Jvm.Cond.methodLink "MapHallLaw" (321 : Nat) ({ cls := "MapHallLaw", name := "byPermutations", desc := "(LMapHall;I)I" } : Jvm.MethodName)) ∈ wsG := wsG_of (wsT6_in 223 rfl) rfl
theorem w_1437 : (Jvm.Cond.static ({ cls := "MapHallLaw", name := "byPermutations", desc := "(LMapHall;I)I" } : Jvm.MethodName)) ∈ wsG := wsG_of (wsT6_in 224 rfl) rfl
theorem w_1438 : (Jvm.Cond.codeWith ({ cls := "MapHallLaw", name := "byPermutations", desc := "(LMapHall;I)I" } : Jvm.MethodName) method_28_code (3 : Nat) (Option.some Jvm.ClassFile.FieldType.int) [((0 : Nat), (5 : Nat), (6 : Nat), (21 : Nat))]) ∈ wsG := wsG_of (wsT6_in 225 rfl) rfl
theorem w_1439 : (Jvm.Cond.methodLink "MapHallLaw" (101 : Nat) ({ cls := "MapHall", name := "foldingsByPermutations", desc := "(I)I" } : Jvm.MethodName)) ∈ wsG := wsG_of (wsT6_in 226 rfl) rfl
theorem w_1440 : (Jvm.Cond.instanceMethod ({ cls := "MapHall", name := "foldingsByPermutations", desc := "(I)I" } : Jvm.MethodName)) ∈ wsG := wsG_of (wsT6_in 227 rfl) rfl
theorem w_1441 : (Jvm.Cond.selects "MapHall" ({ cls := "MapHall", name := "foldingsByPermutations", desc := "(I)I" } : Jvm.MethodName) ({ cls := "MapHall", name := "foldingsByPermutations", desc := "(I)I" } : Jvm.MethodName)) ∈ wsG := wsG_of (wsT6_in 228 rfl) rfl
theorem w_1442 : (Jvm.Cond.code ({ cls := "MapHall", name := "foldingsByPermutations", desc := "(I)I" } : Jvm.MethodName) prog_1_method_29_code (2 : Nat) (Option.some Jvm.ClassFile.FieldType.int)) ∈ wsG := wsG_of (wsT6_in 229 rfl) rfl
theorem w_1443 : (Jvm.Cond.methodLink "MapHall" (218 : Nat) ({ cls := "MapHall$Stacks", name := "countByPermutations", desc := "(LMapHall$Sheet;)I" } : Jvm.MethodName)) ∈ wsG := wsG_of (wsT6_in 230 rfl) rfl
theorem w_1444 : (Jvm.Cond.instanceMethod ({ cls := "MapHall$Stacks", name := "countByPermutations", desc := "(LMapHall$Sheet;)I" } : Jvm.MethodName)) ∈ wsG := wsG_of (wsT6_in 231 rfl) rfl
theorem w_1445 : (Jvm.Cond.selects "MapHall$Stacks" ({ cls := "MapHall$Stacks", name := "countByPermutations", desc := "(LMapHall$Sheet;)I" } : Jvm.MethodName) ({ cls := "MapHall$Stacks", name := "countByPermutations", desc := "(LMapHall$Sheet;)I" } : Jvm.MethodName)) ∈ wsG := wsG_of (wsT6_in 232 rfl) rfl
theorem w_1446 : (Jvm.Cond.code ({ cls := "MapHall$Stacks", name := "countByPermutations", desc := "(LMapHall$Sheet;)I" } : Jvm.MethodName) prog_10_method_3_code (3 : Nat) (Option.some Jvm.ClassFile.FieldType.int)) ∈ wsG := wsG_of (wsT6_in 233 rfl) rfl
theorem w_1447 : (Jvm.Cond.methodLink "MapHall$Stacks" (25 : Nat) ({ cls := "MapHall$Stacks", name := "countPermutations", desc := "(LMapHall$Sheet;[II)I" } : Jvm.MethodName)) ∈ wsG := wsG_of (wsT6_in 234 rfl) rfl
theorem w_1448 : (Jvm.Cond.static ({ cls := "MapHall$Stacks", name := "countPermutations", desc := "(LMapHall$Sheet;[II)I" } : Jvm.MethodName)) ∈ wsG := wsG_of (wsT6_in 235 rfl) rfl
theorem w_1449 : (Jvm.Cond.code ({ cls := "MapHall$Stacks", name := "countPermutations", desc := "(LMapHall$Sheet;[II)I" } : Jvm.MethodName) prog_10_method_7_code (5 : Nat) (Option.some Jvm.ClassFile.FieldType.int)) ∈ wsG := wsG_of (wsT6_in 236 rfl) rfl
theorem w_1450 : (Jvm.Cond.methodLink "MapHall$Stacks" (41 : Nat) ({ cls := "MapHall$Stacks", name := "isPossible", desc := "(LMapHall$Sheet;[I)Z" } : Jvm.MethodName)) ∈ wsG := wsG_of (wsT6_in 237 rfl) rfl
theorem w_1451 : (Jvm.Cond.static ({ cls := "MapHall$Stacks", name := "isPossible", desc := "(LMapHall$Sheet;[I)Z" } : Jvm.MethodName)) ∈ wsG := wsG_of (wsT6_in 238 rfl) rfl
theorem w_1452 : (Jvm.Cond.code ({ cls := "MapHall$Stacks", name := "isPossible", desc := "(LMapHall$Sheet;[I)Z" } : Jvm.MethodName) prog_10_method_9_code (3 : Nat) (Option.some Jvm.ClassFile.FieldType.boolean)) ∈ wsG := wsG_of (wsT6_in 239 rfl) rfl
theorem w_1453 : (Jvm.Cond.methodLink "MapHall$Stacks" (45 : Nat) ({ cls := "MapHall$Stacks", name := "swap", desc := "([III)V" } : Jvm.MethodName)) ∈ wsG := wsG_of (wsT7_in 0 rfl) rfl
theorem w_1454 : (Jvm.Cond.static ({ cls := "MapHall$Stacks", name := "swap", desc := "([III)V" } : Jvm.MethodName)) ∈ wsG := wsG_of (wsT7_in 1 rfl) rfl
theorem w_1455 : (Jvm.Cond.code ({ cls := "MapHall$Stacks", name := "swap", desc := "([III)V" } : Jvm.MethodName) prog_10_method_8_code (4 : Nat) (Option.none : Option Jvm.ClassFile.FieldType)) ∈ wsG := wsG_of (wsT7_in 2 rfl) rfl
theorem w_1456 : (Jvm.Cond.methodLink "MapHallLaw" (324 : Nat) ({ cls := "MapHall", name := "emptyCells", desc := "()I" } : Jvm.MethodName)) ∈ wsG := wsG_of (wsT7_in 3 rfl) rfl
theorem w_1457 : (Jvm.Cond.instanceMethod ({ cls := "MapHall", name := "emptyCells", desc := "()I" } : Jvm.MethodName)) ∈ wsG := wsG_of (wsT7_in 4 rfl) rfl
theorem w_1458 : (Jvm.Cond.selects "MapHall" ({ cls := "MapHall", name := "emptyCells", desc := "()I" } : Jvm.MethodName) ({ cls := "MapHall", name := "emptyCells", desc := "()I" } : Jvm.MethodName)) ∈ wsG := wsG_of (wsT7_in 5 rfl) rfl
theorem w_1459 : (Jvm.Cond.code ({ cls := "MapHall", name := "emptyCells", desc := "()I" } : Jvm.MethodName) prog_1_method_22_code (1 : Nat) (Option.some Jvm.ClassFile.FieldType.int)) ∈ wsG := wsG_of (wsT7_in 6 rfl) rfl
theorem w_1460 : (Jvm.Cond.methodLink "MapHallLaw" (327 : Nat) ({ cls := "MapHallLaw", name := "backwards", desc := "(LMapHall;)I" } : Jvm.MethodName)) ∈ wsG := wsG_of (wsT7_in 7 rfl) rfl
theorem w_1461 : (Jvm.Cond.static ({ cls := "MapHallLaw", name := "backwards", desc := "(LMapHall;)I" } : Jvm.MethodName)) ∈ wsG := wsG_of (wsT7_in 8 rfl) rfl
theorem w_1462 : (Jvm.Cond.codeWith ({ cls := "MapHallLaw", name := "backwards", desc := "(LMapHall;)I" } : Jvm.MethodName) method_26_code (2 : Nat) (Option.some Jvm.ClassFile.FieldType.int) [((0 : Nat), (4 : Nat), (5 : Nat), (33 : Nat))]) ∈ wsG := wsG_of (wsT7_in 9 rfl) rfl
theorem w_1463 : (Jvm.Cond.methodLink "MapHallLaw" (95 : Nat) ({ cls := "MapHall", name := "completionsBackwards", desc := "()I" } : Jvm.MethodName)) ∈ wsG := wsG_of (wsT7_in 10 rfl) rfl
theorem w_1464 : (Jvm.Cond.instanceMethod ({ cls := "MapHall", name := "completionsBackwards", desc := "()I" } : Jvm.MethodName)) ∈ wsG := wsG_of (wsT7_in 11 rfl) rfl
theorem w_1465 : (Jvm.Cond.selects "MapHall" ({ cls := "MapHall", name := "completionsBackwards", desc := "()I" } : Jvm.MethodName) ({ cls := "MapHall", name := "completionsBackwards", desc := "()I" } : Jvm.MethodName)) ∈ wsG := wsG_of (wsT7_in 12 rfl) rfl
theorem w_1466 : (Jvm.Cond.code ({ cls := "MapHall", name := "completionsBackwards", desc := "()I" } : Jvm.MethodName) prog_1_method_27_code (1 : Nat) (Option.some Jvm.ClassFile.FieldType.int)) ∈ wsG := wsG_of (wsT7_in 13 rfl) rfl
theorem w_1469 : (Jvm.Cond.methodLink "MapHallLaw" (336 : Nat) ({ cls := "MapHallLaw", name := "failedCommand", desc := "(LMapHall;)I" } : Jvm.MethodName)) ∈ wsG := wsG_of (wsT7_in 16 rfl) rfl
theorem w_1470 : (Jvm.Cond.static ({ cls := "MapHallLaw", name := "failedCommand", desc := "(LMapHall;)I" } : Jvm.MethodName)) ∈ wsG := wsG_of (wsT7_in 17 rfl) rfl
theorem w_1471 : (Jvm.Cond.codeWith ({ cls := "MapHallLaw", name := "failedCommand", desc := "(LMapHall;)I" } : Jvm.MethodName) method_37_code (2 : Nat) (Option.some Jvm.ClassFile.FieldType.int) [((0 : Nat), (4 : Nat), (5 : Nat), (42 : Nat))]) ∈ wsG := wsG_of (wsT7_in 18 rfl) rfl
theorem w_1472 : (Jvm.Cond.methodLink "MapHallLaw" (135 : Nat) ({ cls := "MapHall", name := "failedCommand", desc := "()I" } : Jvm.MethodName)) ∈ wsG := wsG_of (wsT7_in 19 rfl) rfl
theorem w_1473 : (Jvm.Cond.instanceMethod ({ cls := "MapHall", name := "failedCommand", desc := "()I" } : Jvm.MethodName)) ∈ wsG := wsG_of (wsT7_in 20 rfl) rfl
theorem w_1474 : (Jvm.Cond.selects "MapHall" ({ cls := "MapHall", name := "failedCommand", desc := "()I" } : Jvm.MethodName) ({ cls := "MapHall", name := "failedCommand", desc := "()I" } : Jvm.MethodName)) ∈ wsG := wsG_of (wsT7_in 21 rfl) rfl
theorem w_1475 : (Jvm.Cond.code ({ cls := "MapHall", name := "failedCommand", desc := "()I" } : Jvm.MethodName) prog_1_method_47_code (1 : Nat) (Option.some Jvm.ClassFile.FieldType.int)) ∈ wsG := wsG_of (wsT7_in 22 rfl) rfl
theorem w_1478 : (Jvm.Cond.arrayClass Jvm.ClassFile.FieldType.long) ∈ wsG := wsG_of (wsT7_in 25 rfl) rfl
theorem w_1508 : (Jvm.Cond.fieldLink "MapHall$Form" (52 : Nat) "MapHall$Form" "pattern" "Ljava/lang/String;") ∈ wsG := wsG_of (wsT7_in 55 rfl) rfl
theorem w_1509 : (Jvm.Cond.fieldLink "java/lang/Enum" (7 : Nat) "java/lang/Enum" "ordinal" "I") ∈ wsG := wsG_of (wsT7_in 56 rfl) rfl
