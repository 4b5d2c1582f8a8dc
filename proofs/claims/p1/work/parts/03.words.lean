theorem wd_0 : (Jvm.Cond.initialized "StrataBaseLaw") ∈ tblG := rn_1 (List.mem_of_getElem? (i := 0) rfl) rfl
theorem wd_1 : (Jvm.Cond.initialized "StrataBase") ∈ tblG := rn_1 (List.mem_of_getElem? (i := 1) rfl) rfl
theorem wd_2 : (Jvm.Cond.initialized "StrataBase$Program") ∈ tblG := rn_1 (List.mem_of_getElem? (i := 2) rfl) rfl
theorem wd_3 : (Jvm.Cond.initialized "StrataBase$Clauses") ∈ tblG := rn_1 (List.mem_of_getElem? (i := 3) rfl) rfl
theorem wd_4 : (Jvm.Cond.initialized "StrataBase$Names") ∈ tblG := rn_1 (List.mem_of_getElem? (i := 4) rfl) rfl
theorem wd_5 : (Jvm.Cond.initialized "StrataBase$Constants") ∈ tblG := rn_1 (List.mem_of_getElem? (i := 5) rfl) rfl
theorem wd_6 : (Jvm.Cond.initialized "StrataBase$Reader") ∈ tblG := rn_1 (List.mem_of_getElem? (i := 6) rfl) rfl
theorem wd_7 : (Jvm.Cond.initialized "StrataBase$Tokens") ∈ tblG := rn_1 (List.mem_of_getElem? (i := 7) rfl) rfl
theorem wd_8 : (Jvm.Cond.initialized "StrataBase$Facts") ∈ tblG := rn_1 (List.mem_of_getElem? (i := 8) rfl) rfl
theorem wd_9 : (Jvm.Cond.initialized "StrataBase$Join") ∈ tblG := rn_1 (List.mem_of_getElem? (i := 9) rfl) rfl
theorem wd_10 : (Jvm.Cond.initialized "StrataBase$Indexes") ∈ tblG := rn_1 (List.mem_of_getElem? (i := 10) rfl) rfl
theorem wd_11 : (Jvm.Cond.initialized "StrataBase$Step") ∈ tblG := rn_1 (List.mem_of_getElem? (i := 11) rfl) rfl
theorem wd_12 : (Jvm.Cond.initialized "StrataBase$Rows") ∈ tblG := rn_1 (List.mem_of_getElem? (i := 12) rfl) rfl
theorem wd_13 : (Jvm.Cond.initialized "StrataBaseModel") ∈ tblG := rn_1 (List.mem_of_getElem? (i := 13) rfl) rfl
theorem wd_14 : (Jvm.Cond.initialized "java/lang/Throwable") ∈ tblG := rn_1 (List.mem_of_getElem? (i := 14) rfl) rfl
theorem wd_15 : (Jvm.Cond.initialized "java/lang/Exception") ∈ tblG := rn_1 (List.mem_of_getElem? (i := 15) rfl) rfl
theorem wd_16 : (Jvm.Cond.initialized "java/lang/RuntimeException") ∈ tblG := rn_1 (List.mem_of_getElem? (i := 16) rfl) rfl
theorem wd_17 : (Jvm.Cond.initialized "java/lang/UnsupportedOperationException") ∈ tblG := rn_1 (List.mem_of_getElem? (i := 17) rfl) rfl
theorem wd_18 : (Jvm.Cond.initialized "java/lang/IllegalArgumentException") ∈ tblG := rn_1 (List.mem_of_getElem? (i := 18) rfl) rfl
theorem wd_19 : (Jvm.Cond.initialized "java/util/Arrays") ∈ tblG := rn_1 (List.mem_of_getElem? (i := 19) rfl) rfl
theorem wd_20 : (Jvm.Cond.initialized "java/lang/Math") ∈ tblG := rn_1 (List.mem_of_getElem? (i := 20) rfl) rfl
theorem wd_21 : (Jvm.Cond.initialized "java/lang/Integer") ∈ tblG := rn_1 (List.mem_of_getElem? (i := 21) rfl) rfl
theorem wd_22 : (Jvm.Cond.initialized "java/lang/System") ∈ tblG := rn_1 (List.mem_of_getElem? (i := 22) rfl) rfl
theorem wd_23 : (Jvm.Cond.initialized "java/lang/IllegalStateException") ∈ tblG := rn_1 (List.mem_of_getElem? (i := 23) rfl) rfl
theorem wd_24 : (Jvm.Cond.initialized "java/lang/IndexOutOfBoundsException") ∈ tblG := rn_1 (List.mem_of_getElem? (i := 24) rfl) rfl
theorem wd_25 : (Jvm.Cond.classLink "StrataBaseLaw" (8 : Nat) "StrataBase") ∈ tblG := rn_1 (List.mem_of_getElem? (i := 25) rfl) rfl
theorem wd_26 : (Jvm.Cond.instantiable "StrataBase" (13 : Nat)) ∈ tblG := rn_1 (List.mem_of_getElem? (i := 26) rfl) rfl
theorem wd_27 : (Jvm.Cond.methodLink "StrataBaseLaw" (51 : Nat) ({ cls := "StrataBase", name := "<init>", desc := "()V" } : Jvm.MethodName)) ∈ tblG := rn_1 (List.mem_of_getElem? (i := 27) rfl) rfl
theorem wd_28 : (Jvm.Cond.instanceMethod ({ cls := "StrataBase", name := "<init>", desc := "()V" } : Jvm.MethodName)) ∈ tblG := rn_1 (List.mem_of_getElem? (i := 28) rfl) rfl
theorem wd_29 : (Jvm.Cond.code ({ cls := "StrataBase", name := "<init>", desc := "()V" } : Jvm.MethodName) prog_1_method_1_code (1 : Nat) (Option.none : Option Jvm.ClassFile.FieldType)) ∈ tblG := rn_1 (List.mem_of_getElem? (i := 29) rfl) rfl
theorem wd_30 : (Jvm.Cond.methodLink "StrataBase" (1 : Nat) ({ cls := "java/lang/Object", name := "<init>", desc := "()V" } : Jvm.MethodName)) ∈ tblG := rn_1 (List.mem_of_getElem? (i := 30) rfl) rfl
theorem wd_31 : (Jvm.Cond.instanceMethod ({ cls := "java/lang/Object", name := "<init>", desc := "()V" } : Jvm.MethodName)) ∈ tblG := rn_1 (List.mem_of_getElem? (i := 31) rfl) rfl
theorem wd_32 : (Jvm.Cond.code ({ cls := "java/lang/Object", name := "<init>", desc := "()V" } : Jvm.MethodName) object_method_1_code (1 : Nat) (Option.none : Option Jvm.ClassFile.FieldType)) ∈ tblG := rn_1 (List.mem_of_getElem? (i := 32) rfl) rfl
theorem wd_33 : (Jvm.Cond.constant "StrataBase" (9 : Nat) (65536 : Int32)) ∈ tblG := rn_1 (List.mem_of_getElem? (i := 33) rfl) rfl
theorem wd_34 : (Jvm.Cond.classLink "StrataBase" (14 : Nat) "StrataBase$Program") ∈ tblG := rn_1 (List.mem_of_getElem? (i := 34) rfl) rfl
theorem wd_35 : (Jvm.Cond.instantiable "StrataBase$Program" (7 : Nat)) ∈ tblG := rn_1 (List.mem_of_getElem? (i := 35) rfl) rfl
theorem wd_36 : (Jvm.Cond.methodLink "StrataBase" (16 : Nat) ({ cls := "StrataBase$Program", name := "<init>", desc := "()V" } : Jvm.MethodName)) ∈ tblG := rn_1 (List.mem_of_getElem? (i := 36) rfl) rfl
theorem wd_37 : (Jvm.Cond.instanceMethod ({ cls := "StrataBase$Program", name := "<init>", desc := "()V" } : Jvm.MethodName)) ∈ tblG := rn_1 (List.mem_of_getElem? (i := 37) rfl) rfl
theorem wd_38 : (Jvm.Cond.code ({ cls := "StrataBase$Program", name := "<init>", desc := "()V" } : Jvm.MethodName) prog_8_method_1_code (1 : Nat) (Option.none : Option Jvm.ClassFile.FieldType)) ∈ tblG := rn_1 (List.mem_of_getElem? (i := 38) rfl) rfl
theorem wd_39 : (Jvm.Cond.methodLink "StrataBase$Program" (3 : Nat) ({ cls := "java/lang/Object", name := "<init>", desc := "()V" } : Jvm.MethodName)) ∈ tblG := rn_1 (List.mem_of_getElem? (i := 39) rfl) rfl
theorem wd_40 : (Jvm.Cond.classLink "StrataBase$Program" (9 : Nat) "StrataBase$Clauses") ∈ tblG := rn_1 (List.mem_of_getElem? (i := 40) rfl) rfl
theorem wd_41 : (Jvm.Cond.instantiable "StrataBase$Clauses" (9 : Nat)) ∈ tblG := rn_1 (List.mem_of_getElem? (i := 41) rfl) rfl
theorem wd_42 : (Jvm.Cond.methodLink "StrataBase$Program" (13 : Nat) ({ cls := "StrataBase$Clauses", name := "<init>", desc := "(I)V" } : Jvm.MethodName)) ∈ tblG := rn_1 (List.mem_of_getElem? (i := 42) rfl) rfl
theorem wd_43 : (Jvm.Cond.instanceMethod ({ cls := "StrataBase$Clauses", name := "<init>", desc := "(I)V" } : Jvm.MethodName)) ∈ tblG := rn_1 (List.mem_of_getElem? (i := 43) rfl) rfl
theorem wd_44 : (Jvm.Cond.code ({ cls := "StrataBase$Clauses", name := "<init>", desc := "(I)V" } : Jvm.MethodName) prog_2_method_1_code (3 : Nat) (Option.none : Option Jvm.ClassFile.FieldType)) ∈ tblG := rn_1 (List.mem_of_getElem? (i := 44) rfl) rfl
theorem wd_45 : (Jvm.Cond.methodLink "StrataBase$Clauses" (3 : Nat) ({ cls := "java/lang/Object", name := "<init>", desc := "()V" } : Jvm.MethodName)) ∈ tblG := rn_1 (List.mem_of_getElem? (i := 45) rfl) rfl
theorem wd_46 : (Jvm.Cond.fieldLink "StrataBase$Clauses" (33 : Nat) "StrataBase$Clauses" "size" "I") ∈ tblG := rn_1 (List.mem_of_getElem? (i := 46) rfl) rfl
theorem wd_47 : (Jvm.Cond.fieldLink "StrataBase$Program" (64 : Nat) "StrataBase$Clauses" "size" "I") ∈ tblG := rn_1 (List.mem_of_getElem? (i := 47) rfl) rfl
theorem wd_48 : (Jvm.Cond.fieldLink "StrataBase$Join" (84 : Nat) "StrataBase$Clauses" "size" "I") ∈ tblG := rn_1 (List.mem_of_getElem? (i := 48) rfl) rfl
theorem wd_49 : (Jvm.Cond.fieldLink "StrataBase$Reader" (158 : Nat) "StrataBase$Clauses" "size" "I") ∈ tblG := rn_1 (List.mem_of_getElem? (i := 49) rfl) rfl
theorem wd_50 : (Jvm.Cond.fieldLink "StrataBase" (207 : Nat) "StrataBase$Clauses" "size" "I") ∈ tblG := rn_1 (List.mem_of_getElem? (i := 50) rfl) rfl
theorem wd_51 : (Jvm.Cond.fieldLink "StrataBase$Clauses" (11 : Nat) "StrataBase$Clauses" "first" "[I") ∈ tblG := rn_1 (List.mem_of_getElem? (i := 51) rfl) rfl
theorem wd_52 : (Jvm.Cond.fieldLink "StrataBase$Program" (58 : Nat) "StrataBase$Clauses" "first" "[I") ∈ tblG := rn_1 (List.mem_of_getElem? (i := 52) rfl) rfl
theorem wd_53 : (Jvm.Cond.fieldLink "StrataBase$Join" (59 : Nat) "StrataBase$Clauses" "first" "[I") ∈ tblG := rn_1 (List.mem_of_getElem? (i := 53) rfl) rfl
theorem wd_54 : (Jvm.Cond.fieldLink "StrataBase$Clauses" (15 : Nat) "StrataBase$Clauses" "kinds" "[I") ∈ tblG := rn_1 (List.mem_of_getElem? (i := 54) rfl) rfl
theorem wd_55 : (Jvm.Cond.fieldLink "StrataBase$Program" (72 : Nat) "StrataBase$Clauses" "kinds" "[I") ∈ tblG := rn_1 (List.mem_of_getElem? (i := 55) rfl) rfl
theorem wd_56 : (Jvm.Cond.fieldLink "StrataBase$Join" (114 : Nat) "StrataBase$Clauses" "kinds" "[I") ∈ tblG := rn_1 (List.mem_of_getElem? (i := 56) rfl) rfl
theorem wd_57 : (Jvm.Cond.fieldLink "StrataBase$Reader" (227 : Nat) "StrataBase$Clauses" "kinds" "[I") ∈ tblG := rn_1 (List.mem_of_getElem? (i := 57) rfl) rfl
theorem wd_58 : (Jvm.Cond.fieldLink "StrataBase$Clauses" (18 : Nat) "StrataBase$Clauses" "predicates" "[I") ∈ tblG := rn_1 (List.mem_of_getElem? (i := 58) rfl) rfl
theorem wd_59 : (Jvm.Cond.fieldLink "StrataBase$Step" (27 : Nat) "StrataBase$Clauses" "predicates" "[I") ∈ tblG := rn_1 (List.mem_of_getElem? (i := 59) rfl) rfl
theorem wd_60 : (Jvm.Cond.fieldLink "StrataBase$Program" (56 : Nat) "StrataBase$Clauses" "predicates" "[I") ∈ tblG := rn_1 (List.mem_of_getElem? (i := 60) rfl) rfl
theorem wd_61 : (Jvm.Cond.fieldLink "StrataBase$Join" (111 : Nat) "StrataBase$Clauses" "predicates" "[I") ∈ tblG := rn_1 (List.mem_of_getElem? (i := 61) rfl) rfl
theorem wd_62 : (Jvm.Cond.fieldLink "StrataBase" (186 : Nat) "StrataBase$Clauses" "predicates" "[I") ∈ tblG := rn_1 (List.mem_of_getElem? (i := 62) rfl) rfl
theorem wd_63 : (Jvm.Cond.fieldLink "StrataBase$Reader" (189 : Nat) "StrataBase$Clauses" "predicates" "[I") ∈ tblG := rn_1 (List.mem_of_getElem? (i := 63) rfl) rfl
theorem wd_64 : (Jvm.Cond.fieldLink "StrataBase$Clauses" (21 : Nat) "StrataBase$Clauses" "places" "[I") ∈ tblG := rn_1 (List.mem_of_getElem? (i := 64) rfl) rfl
theorem wd_65 : (Jvm.Cond.fieldLink "StrataBase$Program" (75 : Nat) "StrataBase$Clauses" "places" "[I") ∈ tblG := rn_1 (List.mem_of_getElem? (i := 65) rfl) rfl
theorem wd_66 : (Jvm.Cond.fieldLink "StrataBase$Clauses" (24 : Nat) "StrataBase$Clauses" "sizes" "[I") ∈ tblG := rn_1 (List.mem_of_getElem? (i := 66) rfl) rfl
theorem wd_67 : (Jvm.Cond.fieldLink "StrataBase$Step" (20 : Nat) "StrataBase$Clauses" "sizes" "[I") ∈ tblG := rn_1 (List.mem_of_getElem? (i := 67) rfl) rfl
theorem wd_68 : (Jvm.Cond.fieldLink "StrataBase$Program" (102 : Nat) "StrataBase$Clauses" "sizes" "[I") ∈ tblG := rn_1 (List.mem_of_getElem? (i := 68) rfl) rfl
theorem wd_69 : (Jvm.Cond.fieldLink "StrataBase$Join" (167 : Nat) "StrataBase$Clauses" "sizes" "[I") ∈ tblG := rn_1 (List.mem_of_getElem? (i := 69) rfl) rfl
theorem wd_70 : (Jvm.Cond.fieldLink "StrataBase$Reader" (201 : Nat) "StrataBase$Clauses" "sizes" "[I") ∈ tblG := rn_1 (List.mem_of_getElem? (i := 70) rfl) rfl
theorem wd_71 : (Jvm.Cond.fieldLink "StrataBase$Clauses" (27 : Nat) "StrataBase$Clauses" "masks" "[I") ∈ tblG := rn_1 (List.mem_of_getElem? (i := 71) rfl) rfl
theorem wd_72 : (Jvm.Cond.fieldLink "StrataBase$Step" (56 : Nat) "StrataBase$Clauses" "masks" "[I") ∈ tblG := rn_1 (List.mem_of_getElem? (i := 72) rfl) rfl
theorem wd_73 : (Jvm.Cond.fieldLink "StrataBase$Join" (85 : Nat) "StrataBase$Clauses" "masks" "[I") ∈ tblG := rn_1 (List.mem_of_getElem? (i := 73) rfl) rfl
theorem wd_74 : (Jvm.Cond.fieldLink "StrataBase$Reader" (230 : Nat) "StrataBase$Clauses" "masks" "[I") ∈ tblG := rn_1 (List.mem_of_getElem? (i := 74) rfl) rfl
theorem wd_75 : (Jvm.Cond.fieldLink "StrataBase$Clauses" (30 : Nat) "StrataBase$Clauses" "terms" "[I") ∈ tblG := rn_1 (List.mem_of_getElem? (i := 75) rfl) rfl
theorem wd_76 : (Jvm.Cond.fieldLink "StrataBase$Clauses" (37 : Nat) "StrataBase$Clauses" "literals" "I") ∈ tblG := rn_1 (List.mem_of_getElem? (i := 76) rfl) rfl
theorem wd_77 : (Jvm.Cond.lays "StrataBase$Clauses" "StrataBase$Clauses" "size" "I") ∈ tblG := rn_1 (List.mem_of_getElem? (i := 77) rfl) rfl
theorem wd_79 : (Jvm.Cond.laysFinal "StrataBase$Clauses" "StrataBase$Clauses" "first" "[I") ∈ tblG := rn_1 (List.mem_of_getElem? (i := 79) rfl) rfl
theorem wd_81 : (Jvm.Cond.laysFinal "StrataBase$Clauses" "StrataBase$Clauses" "kinds" "[I") ∈ tblG := rn_1 (List.mem_of_getElem? (i := 81) rfl) rfl
theorem wd_83 : (Jvm.Cond.laysFinal "StrataBase$Clauses" "StrataBase$Clauses" "predicates" "[I") ∈ tblG := rn_1 (List.mem_of_getElem? (i := 83) rfl) rfl
theorem wd_85 : (Jvm.Cond.laysFinal "StrataBase$Clauses" "StrataBase$Clauses" "places" "[I") ∈ tblG := rn_1 (List.mem_of_getElem? (i := 85) rfl) rfl
theorem wd_87 : (Jvm.Cond.laysFinal "StrataBase$Clauses" "StrataBase$Clauses" "sizes" "[I") ∈ tblG := rn_1 (List.mem_of_getElem? (i := 87) rfl) rfl
theorem wd_89 : (Jvm.Cond.laysFinal "StrataBase$Clauses" "StrataBase$Clauses" "masks" "[I") ∈ tblG := rn_1 (List.mem_of_getElem? (i := 89) rfl) rfl
theorem wd_91 : (Jvm.Cond.laysFinal "StrataBase$Clauses" "StrataBase$Clauses" "terms" "[I") ∈ tblG := rn_1 (List.mem_of_getElem? (i := 91) rfl) rfl
theorem wd_93 : (Jvm.Cond.lays "StrataBase$Clauses" "StrataBase$Clauses" "literals" "I") ∈ tblG := rn_1 (List.mem_of_getElem? (i := 93) rfl) rfl
theorem wd_96 : (Jvm.Cond.arrayClass Jvm.ClassFile.FieldType.byte) ∈ tblG := rn_1 (List.mem_of_getElem? (i := 96) rfl) rfl
theorem wd_97 : (Jvm.Cond.arrayClass Jvm.ClassFile.FieldType.int) ∈ tblG := rn_1 (List.mem_of_getElem? (i := 97) rfl) rfl
theorem wd_98 : (Jvm.Cond.classLink "StrataBase$Program" (20 : Nat) "StrataBase$Names") ∈ tblG := rn_1 (List.mem_of_getElem? (i := 98) rfl) rfl
theorem wd_99 : (Jvm.Cond.instantiable "StrataBase$Names" (5 : Nat)) ∈ tblG := rn_1 (List.mem_of_getElem? (i := 99) rfl) rfl
theorem wd_100 : (Jvm.Cond.methodLink "StrataBase$Program" (22 : Nat) ({ cls := "StrataBase$Names", name := "<init>", desc := "(I)V" } : Jvm.MethodName)) ∈ tblG := rn_1 (List.mem_of_getElem? (i := 100) rfl) rfl
theorem wd_101 : (Jvm.Cond.instanceMethod ({ cls := "StrataBase$Names", name := "<init>", desc := "(I)V" } : Jvm.MethodName)) ∈ tblG := rn_1 (List.mem_of_getElem? (i := 101) rfl) rfl
theorem wd_102 : (Jvm.Cond.code ({ cls := "StrataBase$Names", name := "<init>", desc := "(I)V" } : Jvm.MethodName) prog_7_method_1_code (2 : Nat) (Option.none : Option Jvm.ClassFile.FieldType)) ∈ tblG := rn_1 (List.mem_of_getElem? (i := 102) rfl) rfl
theorem wd_103 : (Jvm.Cond.methodLink "StrataBase$Names" (3 : Nat) ({ cls := "java/lang/Object", name := "<init>", desc := "()V" } : Jvm.MethodName)) ∈ tblG := rn_1 (List.mem_of_getElem? (i := 103) rfl) rfl
theorem wd_104 : (Jvm.Cond.fieldLink "StrataBase$Names" (22 : Nat) "StrataBase$Names" "size" "I") ∈ tblG := rn_1 (List.mem_of_getElem? (i := 104) rfl) rfl
theorem wd_105 : (Jvm.Cond.fieldLink "StrataBase$Constants" (33 : Nat) "StrataBase$Names" "size" "I") ∈ tblG := rn_1 (List.mem_of_getElem? (i := 105) rfl) rfl
theorem wd_106 : (Jvm.Cond.fieldLink "StrataBase$Program" (95 : Nat) "StrataBase$Names" "size" "I") ∈ tblG := rn_1 (List.mem_of_getElem? (i := 106) rfl) rfl
theorem wd_107 : (Jvm.Cond.fieldLink "StrataBase" (141 : Nat) "StrataBase$Names" "size" "I") ∈ tblG := rn_1 (List.mem_of_getElem? (i := 107) rfl) rfl
theorem wd_108 : (Jvm.Cond.fieldLink "StrataBase$Reader" (289 : Nat) "StrataBase$Names" "size" "I") ∈ tblG := rn_1 (List.mem_of_getElem? (i := 108) rfl) rfl
theorem wd_109 : (Jvm.Cond.fieldLink "StrataBase$Names" (9 : Nat) "StrataBase$Names" "starts" "[I") ∈ tblG := rn_1 (List.mem_of_getElem? (i := 109) rfl) rfl
theorem wd_110 : (Jvm.Cond.fieldLink "StrataBase$Names" (15 : Nat) "StrataBase$Names" "lengths" "[I") ∈ tblG := rn_1 (List.mem_of_getElem? (i := 110) rfl) rfl
theorem wd_111 : (Jvm.Cond.fieldLink "StrataBase$Names" (18 : Nat) "StrataBase$Names" "text" "[B") ∈ tblG := rn_1 (List.mem_of_getElem? (i := 111) rfl) rfl
theorem wd_112 : (Jvm.Cond.fieldLink "StrataBase$Names" (26 : Nat) "StrataBase$Names" "used" "I") ∈ tblG := rn_1 (List.mem_of_getElem? (i := 112) rfl) rfl
theorem wd_113 : (Jvm.Cond.lays "StrataBase$Names" "StrataBase$Names" "size" "I") ∈ tblG := rn_1 (List.mem_of_getElem? (i := 113) rfl) rfl
theorem wd_115 : (Jvm.Cond.laysFinal "StrataBase$Names" "StrataBase$Names" "starts" "[I") ∈ tblG := rn_1 (List.mem_of_getElem? (i := 115) rfl) rfl
theorem wd_117 : (Jvm.Cond.laysFinal "StrataBase$Names" "StrataBase$Names" "lengths" "[I") ∈ tblG := rn_1 (List.mem_of_getElem? (i := 117) rfl) rfl
theorem wd_119 : (Jvm.Cond.lays "StrataBase$Names" "StrataBase$Names" "text" "[B") ∈ tblG := rn_1 (List.mem_of_getElem? (i := 119) rfl) rfl
theorem wd_121 : (Jvm.Cond.lays "StrataBase$Names" "StrataBase$Names" "used" "I") ∈ tblG := rn_1 (List.mem_of_getElem? (i := 121) rfl) rfl
theorem wd_124 : (Jvm.Cond.classLink "StrataBase$Program" (34 : Nat) "StrataBase$Constants") ∈ tblG := rn_1 (List.mem_of_getElem? (i := 124) rfl) rfl
theorem wd_125 : (Jvm.Cond.instantiable "StrataBase$Constants" (4 : Nat)) ∈ tblG := rn_1 (List.mem_of_getElem? (i := 125) rfl) rfl
theorem wd_126 : (Jvm.Cond.methodLink "StrataBase$Program" (36 : Nat) ({ cls := "StrataBase$Constants", name := "<init>", desc := "(I)V" } : Jvm.MethodName)) ∈ tblG := rn_1 (List.mem_of_getElem? (i := 126) rfl) rfl
theorem wd_127 : (Jvm.Cond.instanceMethod ({ cls := "StrataBase$Constants", name := "<init>", desc := "(I)V" } : Jvm.MethodName)) ∈ tblG := rn_1 (List.mem_of_getElem? (i := 127) rfl) rfl
theorem wd_128 : (Jvm.Cond.code ({ cls := "StrataBase$Constants", name := "<init>", desc := "(I)V" } : Jvm.MethodName) prog_3_method_1_code (2 : Nat) (Option.none : Option Jvm.ClassFile.FieldType)) ∈ tblG := rn_1 (List.mem_of_getElem? (i := 128) rfl) rfl
theorem wd_129 : (Jvm.Cond.methodLink "StrataBase$Constants" (3 : Nat) ({ cls := "java/lang/Object", name := "<init>", desc := "()V" } : Jvm.MethodName)) ∈ tblG := rn_1 (List.mem_of_getElem? (i := 129) rfl) rfl
theorem wd_130 : (Jvm.Cond.classLink "StrataBase$Constants" (9 : Nat) "StrataBase$Names") ∈ tblG := rn_1 (List.mem_of_getElem? (i := 130) rfl) rfl
theorem wd_131 : (Jvm.Cond.methodLink "StrataBase$Constants" (11 : Nat) ({ cls := "StrataBase$Names", name := "<init>", desc := "(I)V" } : Jvm.MethodName)) ∈ tblG := rn_1 (List.mem_of_getElem? (i := 131) rfl) rfl
theorem wd_132 : (Jvm.Cond.fieldLink "StrataBase$Constants" (14 : Nat) "StrataBase$Constants" "names" "LStrataBase$Names;") ∈ tblG := rn_1 (List.mem_of_getElem? (i := 132) rfl) rfl
theorem wd_133 : (Jvm.Cond.fieldLink "StrataBase$Constants" (20 : Nat) "StrataBase$Constants" "values" "[I") ∈ tblG := rn_1 (List.mem_of_getElem? (i := 133) rfl) rfl
theorem wd_134 : (Jvm.Cond.fieldLink "StrataBase$Constants" (24 : Nat) "StrataBase$Constants" "byRank" "[I") ∈ tblG := rn_1 (List.mem_of_getElem? (i := 134) rfl) rfl
theorem wd_135 : (Jvm.Cond.fieldLink "StrataBase$Constants" (27 : Nat) "StrataBase$Constants" "ranks" "[I") ∈ tblG := rn_1 (List.mem_of_getElem? (i := 135) rfl) rfl
theorem wd_136 : (Jvm.Cond.laysFinal "StrataBase$Constants" "StrataBase$Constants" "names" "LStrataBase$Names;") ∈ tblG := rn_1 (List.mem_of_getElem? (i := 136) rfl) rfl
theorem wd_138 : (Jvm.Cond.laysFinal "StrataBase$Constants" "StrataBase$Constants" "values" "[I") ∈ tblG := rn_1 (List.mem_of_getElem? (i := 138) rfl) rfl
theorem wd_140 : (Jvm.Cond.laysFinal "StrataBase$Constants" "StrataBase$Constants" "byRank" "[I") ∈ tblG := rn_1 (List.mem_of_getElem? (i := 140) rfl) rfl
theorem wd_142 : (Jvm.Cond.laysFinal "StrataBase$Constants" "StrataBase$Constants" "ranks" "[I") ∈ tblG := rn_1 (List.mem_of_getElem? (i := 142) rfl) rfl
theorem wd_145 : (Jvm.Cond.fieldLink "StrataBase$Program" (16 : Nat) "StrataBase$Program" "clauses" "LStrataBase$Clauses;") ∈ tblG := rn_1 (List.mem_of_getElem? (i := 145) rfl) rfl
theorem wd_146 : (Jvm.Cond.fieldLink "StrataBase$Join" (66 : Nat) "StrataBase$Program" "clauses" "LStrataBase$Clauses;") ∈ tblG := rn_1 (List.mem_of_getElem? (i := 146) rfl) rfl
theorem wd_147 : (Jvm.Cond.fieldLink "StrataBase" (79 : Nat) "StrataBase$Program" "clauses" "LStrataBase$Clauses;") ∈ tblG := rn_1 (List.mem_of_getElem? (i := 147) rfl) rfl
theorem wd_148 : (Jvm.Cond.fieldLink "StrataBase$Program" (23 : Nat) "StrataBase$Program" "predicates" "LStrataBase$Names;") ∈ tblG := rn_1 (List.mem_of_getElem? (i := 148) rfl) rfl
theorem wd_149 : (Jvm.Cond.fieldLink "StrataBase$Reader" (175 : Nat) "StrataBase$Program" "predicates" "LStrataBase$Names;") ∈ tblG := rn_1 (List.mem_of_getElem? (i := 149) rfl) rfl
theorem wd_150 : (Jvm.Cond.fieldLink "StrataBase" (208 : Nat) "StrataBase$Program" "predicates" "LStrataBase$Names;") ∈ tblG := rn_1 (List.mem_of_getElem? (i := 150) rfl) rfl
theorem wd_151 : (Jvm.Cond.fieldLink "StrataBase$Program" (27 : Nat) "StrataBase$Program" "sizes" "[I") ∈ tblG := rn_1 (List.mem_of_getElem? (i := 151) rfl) rfl
theorem wd_152 : (Jvm.Cond.fieldLink "StrataBase$Reader" (285 : Nat) "StrataBase$Program" "sizes" "[I") ∈ tblG := rn_1 (List.mem_of_getElem? (i := 152) rfl) rfl
theorem wd_153 : (Jvm.Cond.fieldLink "StrataBase$Program" (31 : Nat) "StrataBase$Program" "strata" "[I") ∈ tblG := rn_1 (List.mem_of_getElem? (i := 153) rfl) rfl
theorem wd_154 : (Jvm.Cond.fieldLink "StrataBase$Join" (100 : Nat) "StrataBase$Program" "strata" "[I") ∈ tblG := rn_1 (List.mem_of_getElem? (i := 154) rfl) rfl
theorem wd_155 : (Jvm.Cond.fieldLink "StrataBase" (204 : Nat) "StrataBase$Program" "strata" "[I") ∈ tblG := rn_1 (List.mem_of_getElem? (i := 155) rfl) rfl
theorem wd_156 : (Jvm.Cond.fieldLink "StrataBase$Program" (37 : Nat) "StrataBase$Program" "constants" "LStrataBase$Constants;") ∈ tblG := rn_1 (List.mem_of_getElem? (i := 156) rfl) rfl
theorem wd_157 : (Jvm.Cond.fieldLink "StrataBase" (166 : Nat) "StrataBase$Program" "constants" "LStrataBase$Constants;") ∈ tblG := rn_1 (List.mem_of_getElem? (i := 157) rfl) rfl
theorem wd_158 : (Jvm.Cond.fieldLink "StrataBase$Reader" (260 : Nat) "StrataBase$Program" "constants" "LStrataBase$Constants;") ∈ tblG := rn_1 (List.mem_of_getElem? (i := 158) rfl) rfl
theorem wd_159 : (Jvm.Cond.fieldLink "StrataBase$Program" (92 : Nat) "StrataBase$Program" "strataCount" "I") ∈ tblG := rn_1 (List.mem_of_getElem? (i := 159) rfl) rfl
theorem wd_160 : (Jvm.Cond.fieldLink "StrataBase" (118 : Nat) "StrataBase$Program" "strataCount" "I") ∈ tblG := rn_1 (List.mem_of_getElem? (i := 160) rfl) rfl
theorem wd_161 : (Jvm.Cond.fieldLink "StrataBase$Program" (41 : Nat) "StrataBase$Program" "reached" "[J") ∈ tblG := rn_1 (List.mem_of_getElem? (i := 161) rfl) rfl
theorem wd_162 : (Jvm.Cond.laysFinal "StrataBase$Program" "StrataBase$Program" "clauses" "LStrataBase$Clauses;") ∈ tblG := rn_1 (List.mem_of_getElem? (i := 162) rfl) rfl
theorem wd_164 : (Jvm.Cond.laysFinal "StrataBase$Program" "StrataBase$Program" "predicates" "LStrataBase$Names;") ∈ tblG := rn_1 (List.mem_of_getElem? (i := 164) rfl) rfl
theorem wd_166 : (Jvm.Cond.laysFinal "StrataBase$Program" "StrataBase$Program" "sizes" "[I") ∈ tblG := rn_1 (List.mem_of_getElem? (i := 166) rfl) rfl
theorem wd_168 : (Jvm.Cond.laysFinal "StrataBase$Program" "StrataBase$Program" "strata" "[I") ∈ tblG := rn_1 (List.mem_of_getElem? (i := 168) rfl) rfl
theorem wd_170 : (Jvm.Cond.laysFinal "StrataBase$Program" "StrataBase$Program" "constants" "LStrataBase$Constants;") ∈ tblG := rn_1 (List.mem_of_getElem? (i := 170) rfl) rfl
theorem wd_172 : (Jvm.Cond.lays "StrataBase$Program" "StrataBase$Program" "strataCount" "I") ∈ tblG := rn_1 (List.mem_of_getElem? (i := 172) rfl) rfl
theorem wd_174 : (Jvm.Cond.laysFinal "StrataBase$Program" "StrataBase$Program" "reached" "[J") ∈ tblG := rn_1 (List.mem_of_getElem? (i := 174) rfl) rfl
theorem wd_177 : (Jvm.Cond.arrayClass Jvm.ClassFile.FieldType.long) ∈ tblG := rn_1 (List.mem_of_getElem? (i := 177) rfl) rfl
theorem wd_178 : (Jvm.Cond.classLink "StrataBase" (24 : Nat) "StrataBase$Clauses") ∈ tblG := rn_1 (List.mem_of_getElem? (i := 178) rfl) rfl
theorem wd_179 : (Jvm.Cond.methodLink "StrataBase" (26 : Nat) ({ cls := "StrataBase$Clauses", name := "<init>", desc := "(I)V" } : Jvm.MethodName)) ∈ tblG := rn_1 (List.mem_of_getElem? (i := 179) rfl) rfl
theorem wd_180 : (Jvm.Cond.classLink "StrataBase" (33 : Nat) "StrataBase$Reader") ∈ tblG := rn_1 (List.mem_of_getElem? (i := 180) rfl) rfl
theorem wd_181 : (Jvm.Cond.instantiable "StrataBase$Reader" (19 : Nat)) ∈ tblG := rn_1 (List.mem_of_getElem? (i := 181) rfl) rfl
theorem wd_182 : (Jvm.Cond.methodLink "StrataBase" (35 : Nat) ({ cls := "StrataBase$Reader", name := "<init>", desc := "()V" } : Jvm.MethodName)) ∈ tblG := rn_1 (List.mem_of_getElem? (i := 182) rfl) rfl
theorem wd_183 : (Jvm.Cond.instanceMethod ({ cls := "StrataBase$Reader", name := "<init>", desc := "()V" } : Jvm.MethodName)) ∈ tblG := rn_1 (List.mem_of_getElem? (i := 183) rfl) rfl
theorem wd_184 : (Jvm.Cond.code ({ cls := "StrataBase$Reader", name := "<init>", desc := "()V" } : Jvm.MethodName) prog_9_method_1_code (1 : Nat) (Option.none : Option Jvm.ClassFile.FieldType)) ∈ tblG := rn_1 (List.mem_of_getElem? (i := 184) rfl) rfl
theorem wd_185 : (Jvm.Cond.methodLink "StrataBase$Reader" (3 : Nat) ({ cls := "java/lang/Object", name := "<init>", desc := "()V" } : Jvm.MethodName)) ∈ tblG := rn_1 (List.mem_of_getElem? (i := 185) rfl) rfl
theorem wd_186 : (Jvm.Cond.classLink "StrataBase$Reader" (9 : Nat) "StrataBase$Names") ∈ tblG := rn_1 (List.mem_of_getElem? (i := 186) rfl) rfl
theorem wd_187 : (Jvm.Cond.methodLink "StrataBase$Reader" (13 : Nat) ({ cls := "StrataBase$Names", name := "<init>", desc := "(I)V" } : Jvm.MethodName)) ∈ tblG := rn_1 (List.mem_of_getElem? (i := 187) rfl) rfl
theorem wd_188 : (Jvm.Cond.classLink "StrataBase$Reader" (22 : Nat) "StrataBase$Tokens") ∈ tblG := rn_1 (List.mem_of_getElem? (i := 188) rfl) rfl
theorem wd_189 : (Jvm.Cond.instantiable "StrataBase$Tokens" (6 : Nat)) ∈ tblG := rn_1 (List.mem_of_getElem? (i := 189) rfl) rfl
theorem wd_191 : (Jvm.Cond.instanceMethod ({ cls := "StrataBase$Tokens", name := "<init>", desc := "()V" } : Jvm.MethodName)) ∈ tblG := rn_1 (List.mem_of_getElem? (i := 191) rfl) rfl
theorem wd_192 : (Jvm.Cond.code ({ cls := "StrataBase$Tokens", name := "<init>", desc := "()V" } : Jvm.MethodName) prog_12_method_1_code (1 : Nat) (Option.none : Option Jvm.ClassFile.FieldType)) ∈ tblG := rn_1 (List.mem_of_getElem? (i := 192) rfl) rfl
theorem wd_193 : (Jvm.Cond.methodLink "StrataBase$Tokens" (1 : Nat) ({ cls := "java/lang/Object", name := "<init>", desc := "()V" } : Jvm.MethodName)) ∈ tblG := rn_1 (List.mem_of_getElem? (i := 193) rfl) rfl
theorem wd_194 : (Jvm.Cond.fieldLink "StrataBase$Tokens" (7 : Nat) "StrataBase$Tokens" "text" "[B") ∈ tblG := rn_1 (List.mem_of_getElem? (i := 194) rfl) rfl
theorem wd_195 : (Jvm.Cond.fieldLink "StrataBase$Reader" (178 : Nat) "StrataBase$Tokens" "text" "[B") ∈ tblG := rn_1 (List.mem_of_getElem? (i := 195) rfl) rfl
theorem wd_196 : (Jvm.Cond.fieldLink "StrataBase$Tokens" (29 : Nat) "StrataBase$Tokens" "kind" "I") ∈ tblG := rn_1 (List.mem_of_getElem? (i := 196) rfl) rfl
theorem wd_197 : (Jvm.Cond.fieldLink "StrataBase$Reader" (123 : Nat) "StrataBase$Tokens" "kind" "I") ∈ tblG := rn_1 (List.mem_of_getElem? (i := 197) rfl) rfl
theorem wd_198 : (Jvm.Cond.fieldLink "StrataBase$Tokens" (23 : Nat) "StrataBase$Tokens" "start" "I") ∈ tblG := rn_1 (List.mem_of_getElem? (i := 198) rfl) rfl
theorem wd_199 : (Jvm.Cond.fieldLink "StrataBase$Reader" (129 : Nat) "StrataBase$Tokens" "start" "I") ∈ tblG := rn_1 (List.mem_of_getElem? (i := 199) rfl) rfl
theorem wd_200 : (Jvm.Cond.fieldLink "StrataBase$Tokens" (17 : Nat) "StrataBase$Tokens" "stop" "I") ∈ tblG := rn_1 (List.mem_of_getElem? (i := 200) rfl) rfl
theorem wd_201 : (Jvm.Cond.fieldLink "StrataBase$Reader" (170 : Nat) "StrataBase$Tokens" "stop" "I") ∈ tblG := rn_1 (List.mem_of_getElem? (i := 201) rfl) rfl
theorem wd_202 : (Jvm.Cond.fieldLink "StrataBase$Tokens" (26 : Nat) "StrataBase$Tokens" "value" "I") ∈ tblG := rn_1 (List.mem_of_getElem? (i := 202) rfl) rfl
theorem wd_203 : (Jvm.Cond.fieldLink "StrataBase$Reader" (255 : Nat) "StrataBase$Tokens" "value" "I") ∈ tblG := rn_1 (List.mem_of_getElem? (i := 203) rfl) rfl
theorem wd_204 : (Jvm.Cond.fieldLink "StrataBase$Tokens" (13 : Nat) "StrataBase$Tokens" "length" "I") ∈ tblG := rn_1 (List.mem_of_getElem? (i := 204) rfl) rfl
theorem wd_205 : (Jvm.Cond.lays "StrataBase$Tokens" "StrataBase$Tokens" "text" "[B") ∈ tblG := rn_1 (List.mem_of_getElem? (i := 205) rfl) rfl
theorem wd_207 : (Jvm.Cond.lays "StrataBase$Tokens" "StrataBase$Tokens" "kind" "I") ∈ tblG := rn_1 (List.mem_of_getElem? (i := 207) rfl) rfl
theorem wd_209 : (Jvm.Cond.lays "StrataBase$Tokens" "StrataBase$Tokens" "start" "I") ∈ tblG := rn_1 (List.mem_of_getElem? (i := 209) rfl) rfl
theorem wd_211 : (Jvm.Cond.lays "StrataBase$Tokens" "StrataBase$Tokens" "stop" "I") ∈ tblG := rn_1 (List.mem_of_getElem? (i := 211) rfl) rfl
theorem wd_213 : (Jvm.Cond.lays "StrataBase$Tokens" "StrataBase$Tokens" "value" "I") ∈ tblG := rn_1 (List.mem_of_getElem? (i := 213) rfl) rfl
theorem wd_215 : (Jvm.Cond.lays "StrataBase$Tokens" "StrataBase$Tokens" "length" "I") ∈ tblG := rn_1 (List.mem_of_getElem? (i := 215) rfl) rfl
theorem wd_218 : (Jvm.Cond.classLink "StrataBase$Reader" (39 : Nat) "StrataBase$Constants") ∈ tblG := rn_1 (List.mem_of_getElem? (i := 218) rfl) rfl
theorem wd_219 : (Jvm.Cond.methodLink "StrataBase$Reader" (41 : Nat) ({ cls := "StrataBase$Constants", name := "<init>", desc := "(I)V" } : Jvm.MethodName)) ∈ tblG := rn_1 (List.mem_of_getElem? (i := 219) rfl) rfl
theorem wd_220 : (Jvm.Cond.fieldLink "StrataBase$Reader" (104 : Nat) "StrataBase$Reader" "code" "I") ∈ tblG := rn_1 (List.mem_of_getElem? (i := 220) rfl) rfl
theorem wd_221 : (Jvm.Cond.fieldLink "StrataBase" (134 : Nat) "StrataBase$Reader" "code" "I") ∈ tblG := rn_1 (List.mem_of_getElem? (i := 221) rfl) rfl
theorem wd_222 : (Jvm.Cond.fieldLink "StrataBase" (95 : Nat) "StrataBase$Reader" "place" "I") ∈ tblG := rn_1 (List.mem_of_getElem? (i := 222) rfl) rfl
theorem wd_223 : (Jvm.Cond.fieldLink "StrataBase$Reader" (139 : Nat) "StrataBase$Reader" "place" "I") ∈ tblG := rn_1 (List.mem_of_getElem? (i := 223) rfl) rfl
theorem wd_224 : (Jvm.Cond.fieldLink "StrataBase$Reader" (16 : Nat) "StrataBase$Reader" "variables" "LStrataBase$Names;") ∈ tblG := rn_1 (List.mem_of_getElem? (i := 224) rfl) rfl
theorem wd_225 : (Jvm.Cond.fieldLink "StrataBase" (137 : Nat) "StrataBase$Reader" "variables" "LStrataBase$Names;") ∈ tblG := rn_1 (List.mem_of_getElem? (i := 225) rfl) rfl
theorem wd_226 : (Jvm.Cond.fieldLink "StrataBase" (144 : Nat) "StrataBase$Reader" "anonymous" "I") ∈ tblG := rn_1 (List.mem_of_getElem? (i := 226) rfl) rfl
theorem wd_227 : (Jvm.Cond.fieldLink "StrataBase$Reader" (142 : Nat) "StrataBase$Reader" "anonymous" "I") ∈ tblG := rn_1 (List.mem_of_getElem? (i := 227) rfl) rfl
theorem wd_228 : (Jvm.Cond.fieldLink "StrataBase$Reader" (25 : Nat) "StrataBase$Reader" "tokens" "LStrataBase$Tokens;") ∈ tblG := rn_1 (List.mem_of_getElem? (i := 228) rfl) rfl
theorem wd_229 : (Jvm.Cond.fieldLink "StrataBase$Reader" (46 : Nat) "StrataBase$Reader" "mode" "I") ∈ tblG := rn_1 (List.mem_of_getElem? (i := 229) rfl) rfl
theorem wd_230 : (Jvm.Cond.fieldLink "StrataBase$Reader" (65 : Nat) "StrataBase$Reader" "state" "I") ∈ tblG := rn_1 (List.mem_of_getElem? (i := 230) rfl) rfl
theorem wd_231 : (Jvm.Cond.fieldLink "StrataBase$Reader" (50 : Nat) "StrataBase$Reader" "program" "LStrataBase$Program;") ∈ tblG := rn_1 (List.mem_of_getElem? (i := 231) rfl) rfl
theorem wd_232 : (Jvm.Cond.fieldLink "StrataBase$Reader" (54 : Nat) "StrataBase$Reader" "target" "LStrataBase$Clauses;") ∈ tblG := rn_1 (List.mem_of_getElem? (i := 232) rfl) rfl
theorem wd_233 : (Jvm.Cond.fieldLink "StrataBase$Reader" (148 : Nat) "StrataBase$Reader" "bodySize" "I") ∈ tblG := rn_1 (List.mem_of_getElem? (i := 233) rfl) rfl
theorem wd_234 : (Jvm.Cond.fieldLink "StrataBase$Reader" (151 : Nat) "StrataBase$Reader" "inHead" "Z") ∈ tblG := rn_1 (List.mem_of_getElem? (i := 234) rfl) rfl
theorem wd_235 : (Jvm.Cond.fieldLink "StrataBase$Reader" (194 : Nat) "StrataBase$Reader" "foreign" "Z") ∈ tblG := rn_1 (List.mem_of_getElem? (i := 235) rfl) rfl
theorem wd_236 : (Jvm.Cond.fieldLink "StrataBase$Reader" (167 : Nat) "StrataBase$Reader" "nameStart" "I") ∈ tblG := rn_1 (List.mem_of_getElem? (i := 236) rfl) rfl
theorem wd_237 : (Jvm.Cond.fieldLink "StrataBase$Reader" (172 : Nat) "StrataBase$Reader" "nameStop" "I") ∈ tblG := rn_1 (List.mem_of_getElem? (i := 237) rfl) rfl
theorem wd_238 : (Jvm.Cond.fieldLink "StrataBase$Reader" (145 : Nat) "StrataBase$Reader" "positive" "I") ∈ tblG := rn_1 (List.mem_of_getElem? (i := 238) rfl) rfl
theorem wd_239 : (Jvm.Cond.fieldLink "StrataBase$Reader" (29 : Nat) "StrataBase$Reader" "needed" "[I") ∈ tblG := rn_1 (List.mem_of_getElem? (i := 239) rfl) rfl
theorem wd_240 : (Jvm.Cond.fieldLink "StrataBase$Reader" (33 : Nat) "StrataBase$Reader" "ownPredicates" "LStrataBase$Names;") ∈ tblG := rn_2 (List.mem_of_getElem? (i := 0) rfl) rfl
theorem wd_241 : (Jvm.Cond.fieldLink "StrataBase$Reader" (36 : Nat) "StrataBase$Reader" "ownSizes" "[I") ∈ tblG := rn_2 (List.mem_of_getElem? (i := 1) rfl) rfl
theorem wd_242 : (Jvm.Cond.fieldLink "StrataBase$Reader" (42 : Nat) "StrataBase$Reader" "sides" "LStrataBase$Constants;") ∈ tblG := rn_2 (List.mem_of_getElem? (i := 2) rfl) rfl
theorem wd_243 : (Jvm.Cond.lays "StrataBase$Reader" "StrataBase$Reader" "code" "I") ∈ tblG := rn_2 (List.mem_of_getElem? (i := 3) rfl) rfl
theorem wd_245 : (Jvm.Cond.lays "StrataBase$Reader" "StrataBase$Reader" "place" "I") ∈ tblG := rn_2 (List.mem_of_getElem? (i := 5) rfl) rfl
theorem wd_247 : (Jvm.Cond.laysFinal "StrataBase$Reader" "StrataBase$Reader" "variables" "LStrataBase$Names;") ∈ tblG := rn_2 (List.mem_of_getElem? (i := 7) rfl) rfl
theorem wd_249 : (Jvm.Cond.lays "StrataBase$Reader" "StrataBase$Reader" "anonymous" "I") ∈ tblG := rn_2 (List.mem_of_getElem? (i := 9) rfl) rfl
theorem wd_251 : (Jvm.Cond.laysFinal "StrataBase$Reader" "StrataBase$Reader" "tokens" "LStrataBase$Tokens;") ∈ tblG := rn_2 (List.mem_of_getElem? (i := 11) rfl) rfl
theorem wd_253 : (Jvm.Cond.lays "StrataBase$Reader" "StrataBase$Reader" "mode" "I") ∈ tblG := rn_2 (List.mem_of_getElem? (i := 13) rfl) rfl
theorem wd_255 : (Jvm.Cond.lays "StrataBase$Reader" "StrataBase$Reader" "state" "I") ∈ tblG := rn_2 (List.mem_of_getElem? (i := 15) rfl) rfl
theorem wd_257 : (Jvm.Cond.lays "StrataBase$Reader" "StrataBase$Reader" "program" "LStrataBase$Program;") ∈ tblG := rn_2 (List.mem_of_getElem? (i := 17) rfl) rfl
theorem wd_259 : (Jvm.Cond.lays "StrataBase$Reader" "StrataBase$Reader" "target" "LStrataBase$Clauses;") ∈ tblG := rn_2 (List.mem_of_getElem? (i := 19) rfl) rfl
theorem wd_261 : (Jvm.Cond.lays "StrataBase$Reader" "StrataBase$Reader" "bodySize" "I") ∈ tblG := rn_2 (List.mem_of_getElem? (i := 21) rfl) rfl
theorem wd_263 : (Jvm.Cond.lays "StrataBase$Reader" "StrataBase$Reader" "inHead" "Z") ∈ tblG := rn_2 (List.mem_of_getElem? (i := 23) rfl) rfl
theorem wd_265 : (Jvm.Cond.lays "StrataBase$Reader" "StrataBase$Reader" "foreign" "Z") ∈ tblG := rn_2 (List.mem_of_getElem? (i := 25) rfl) rfl
theorem wd_267 : (Jvm.Cond.lays "StrataBase$Reader" "StrataBase$Reader" "nameStart" "I") ∈ tblG := rn_2 (List.mem_of_getElem? (i := 27) rfl) rfl
theorem wd_269 : (Jvm.Cond.lays "StrataBase$Reader" "StrataBase$Reader" "nameStop" "I") ∈ tblG := rn_2 (List.mem_of_getElem? (i := 29) rfl) rfl
theorem wd_271 : (Jvm.Cond.lays "StrataBase$Reader" "StrataBase$Reader" "positive" "I") ∈ tblG := rn_2 (List.mem_of_getElem? (i := 31) rfl) rfl
theorem wd_273 : (Jvm.Cond.laysFinal "StrataBase$Reader" "StrataBase$Reader" "needed" "[I") ∈ tblG := rn_2 (List.mem_of_getElem? (i := 33) rfl) rfl
theorem wd_275 : (Jvm.Cond.laysFinal "StrataBase$Reader" "StrataBase$Reader" "ownPredicates" "LStrataBase$Names;") ∈ tblG := rn_2 (List.mem_of_getElem? (i := 35) rfl) rfl
theorem wd_277 : (Jvm.Cond.laysFinal "StrataBase$Reader" "StrataBase$Reader" "ownSizes" "[I") ∈ tblG := rn_2 (List.mem_of_getElem? (i := 37) rfl) rfl
theorem wd_279 : (Jvm.Cond.laysFinal "StrataBase$Reader" "StrataBase$Reader" "sides" "LStrataBase$Constants;") ∈ tblG := rn_2 (List.mem_of_getElem? (i := 39) rfl) rfl
theorem wd_282 : (Jvm.Cond.classLink "StrataBase" (40 : Nat) "StrataBase$Facts") ∈ tblG := rn_2 (List.mem_of_getElem? (i := 42) rfl) rfl
theorem wd_283 : (Jvm.Cond.instantiable "StrataBase$Facts" (14 : Nat)) ∈ tblG := rn_2 (List.mem_of_getElem? (i := 43) rfl) rfl
theorem wd_284 : (Jvm.Cond.methodLink "StrataBase" (42 : Nat) ({ cls := "StrataBase$Facts", name := "<init>", desc := "()V" } : Jvm.MethodName)) ∈ tblG := rn_2 (List.mem_of_getElem? (i := 44) rfl) rfl
theorem wd_285 : (Jvm.Cond.instanceMethod ({ cls := "StrataBase$Facts", name := "<init>", desc := "()V" } : Jvm.MethodName)) ∈ tblG := rn_2 (List.mem_of_getElem? (i := 45) rfl) rfl
theorem wd_286 : (Jvm.Cond.code ({ cls := "StrataBase$Facts", name := "<init>", desc := "()V" } : Jvm.MethodName) prog_4_method_1_code (1 : Nat) (Option.none : Option Jvm.ClassFile.FieldType)) ∈ tblG := rn_2 (List.mem_of_getElem? (i := 46) rfl) rfl
theorem wd_287 : (Jvm.Cond.methodLink "StrataBase$Facts" (5 : Nat) ({ cls := "java/lang/Object", name := "<init>", desc := "()V" } : Jvm.MethodName)) ∈ tblG := rn_2 (List.mem_of_getElem? (i := 47) rfl) rfl
theorem wd_288 : (Jvm.Cond.constant "StrataBase$Facts" (30 : Nat) (32768 : Int32)) ∈ tblG := rn_2 (List.mem_of_getElem? (i := 48) rfl) rfl
theorem wd_289 : (Jvm.Cond.fieldLink "StrataBase$Facts" (46 : Nat) "StrataBase$Facts" "size" "I") ∈ tblG := rn_2 (List.mem_of_getElem? (i := 49) rfl) rfl
theorem wd_290 : (Jvm.Cond.fieldLink "StrataBase$Join" (78 : Nat) "StrataBase$Facts" "size" "I") ∈ tblG := rn_2 (List.mem_of_getElem? (i := 50) rfl) rfl
theorem wd_291 : (Jvm.Cond.fieldLink "StrataBase" (128 : Nat) "StrataBase$Facts" "size" "I") ∈ tblG := rn_2 (List.mem_of_getElem? (i := 51) rfl) rfl
theorem wd_292 : (Jvm.Cond.fieldLink "StrataBase$Facts" (50 : Nat) "StrataBase$Facts" "highest" "I") ∈ tblG := rn_2 (List.mem_of_getElem? (i := 52) rfl) rfl
theorem wd_293 : (Jvm.Cond.fieldLink "StrataBase" (213 : Nat) "StrataBase$Facts" "highest" "I") ∈ tblG := rn_2 (List.mem_of_getElem? (i := 53) rfl) rfl
theorem wd_294 : (Jvm.Cond.fieldLink "StrataBase$Facts" (53 : Nat) "StrataBase$Facts" "full" "Z") ∈ tblG := rn_2 (List.mem_of_getElem? (i := 54) rfl) rfl
theorem wd_295 : (Jvm.Cond.fieldLink "StrataBase" (121 : Nat) "StrataBase$Facts" "full" "Z") ∈ tblG := rn_2 (List.mem_of_getElem? (i := 55) rfl) rfl
theorem wd_296 : (Jvm.Cond.fieldLink "StrataBase$Join" (120 : Nat) "StrataBase$Facts" "full" "Z") ∈ tblG := rn_2 (List.mem_of_getElem? (i := 56) rfl) rfl
theorem wd_297 : (Jvm.Cond.fieldLink "StrataBase$Facts" (11 : Nat) "StrataBase$Facts" "keys" "[J") ∈ tblG := rn_2 (List.mem_of_getElem? (i := 57) rfl) rfl
theorem wd_298 : (Jvm.Cond.fieldLink "StrataBase$Indexes" (87 : Nat) "StrataBase$Facts" "keys" "[J") ∈ tblG := rn_2 (List.mem_of_getElem? (i := 58) rfl) rfl
theorem wd_299 : (Jvm.Cond.fieldLink "StrataBase$Facts" (15 : Nat) "StrataBase$Facts" "stages" "[I") ∈ tblG := rn_2 (List.mem_of_getElem? (i := 59) rfl) rfl
theorem wd_300 : (Jvm.Cond.fieldLink "StrataBase" (201 : Nat) "StrataBase$Facts" "stages" "[I") ∈ tblG := rn_2 (List.mem_of_getElem? (i := 60) rfl) rfl
theorem wd_301 : (Jvm.Cond.fieldLink "StrataBase$Facts" (21 : Nat) "StrataBase$Facts" "amounts" "[I") ∈ tblG := rn_2 (List.mem_of_getElem? (i := 61) rfl) rfl
theorem wd_302 : (Jvm.Cond.fieldLink "StrataBase$Join" (173 : Nat) "StrataBase$Facts" "amounts" "[I") ∈ tblG := rn_2 (List.mem_of_getElem? (i := 62) rfl) rfl
theorem wd_303 : (Jvm.Cond.fieldLink "StrataBase$Facts" (24 : Nat) "StrataBase$Facts" "predicates" "[I") ∈ tblG := rn_2 (List.mem_of_getElem? (i := 63) rfl) rfl
theorem wd_304 : (Jvm.Cond.fieldLink "StrataBase$Facts" (27 : Nat) "StrataBase$Facts" "next" "[I") ∈ tblG := rn_2 (List.mem_of_getElem? (i := 64) rfl) rfl
theorem wd_305 : (Jvm.Cond.fieldLink "StrataBase$Facts" (31 : Nat) "StrataBase$Facts" "slots" "[I") ∈ tblG := rn_2 (List.mem_of_getElem? (i := 65) rfl) rfl
theorem wd_306 : (Jvm.Cond.fieldLink "StrataBase$Facts" (34 : Nat) "StrataBase$Facts" "oldest" "[I") ∈ tblG := rn_2 (List.mem_of_getElem? (i := 66) rfl) rfl
theorem wd_307 : (Jvm.Cond.fieldLink "StrataBase$Facts" (37 : Nat) "StrataBase$Facts" "newest" "[I") ∈ tblG := rn_2 (List.mem_of_getElem? (i := 67) rfl) rfl
theorem wd_308 : (Jvm.Cond.fieldLink "StrataBase$Facts" (40 : Nat) "StrataBase$Facts" "known" "[I") ∈ tblG := rn_2 (List.mem_of_getElem? (i := 68) rfl) rfl
theorem wd_309 : (Jvm.Cond.fieldLink "StrataBase$Facts" (43 : Nat) "StrataBase$Facts" "knownBefore" "[I") ∈ tblG := rn_2 (List.mem_of_getElem? (i := 69) rfl) rfl
theorem wd_310 : (Jvm.Cond.fieldLink "StrataBase$Facts" (57 : Nat) "StrataBase$Facts" "visible" "I") ∈ tblG := rn_2 (List.mem_of_getElem? (i := 70) rfl) rfl
theorem wd_311 : (Jvm.Cond.lays "StrataBase$Facts" "StrataBase$Facts" "size" "I") ∈ tblG := rn_2 (List.mem_of_getElem? (i := 71) rfl) rfl
theorem wd_313 : (Jvm.Cond.lays "StrataBase$Facts" "StrataBase$Facts" "highest" "I") ∈ tblG := rn_2 (List.mem_of_getElem? (i := 73) rfl) rfl
theorem wd_315 : (Jvm.Cond.lays "StrataBase$Facts" "StrataBase$Facts" "full" "Z") ∈ tblG := rn_2 (List.mem_of_getElem? (i := 75) rfl) rfl
theorem wd_317 : (Jvm.Cond.laysFinal "StrataBase$Facts" "StrataBase$Facts" "keys" "[J") ∈ tblG := rn_2 (List.mem_of_getElem? (i := 77) rfl) rfl
theorem wd_319 : (Jvm.Cond.laysFinal "StrataBase$Facts" "StrataBase$Facts" "stages" "[I") ∈ tblG := rn_2 (List.mem_of_getElem? (i := 79) rfl) rfl
theorem wd_321 : (Jvm.Cond.laysFinal "StrataBase$Facts" "StrataBase$Facts" "amounts" "[I") ∈ tblG := rn_2 (List.mem_of_getElem? (i := 81) rfl) rfl
theorem wd_323 : (Jvm.Cond.laysFinal "StrataBase$Facts" "StrataBase$Facts" "predicates" "[I") ∈ tblG := rn_2 (List.mem_of_getElem? (i := 83) rfl) rfl
theorem wd_325 : (Jvm.Cond.laysFinal "StrataBase$Facts" "StrataBase$Facts" "next" "[I") ∈ tblG := rn_2 (List.mem_of_getElem? (i := 85) rfl) rfl
theorem wd_327 : (Jvm.Cond.laysFinal "StrataBase$Facts" "StrataBase$Facts" "slots" "[I") ∈ tblG := rn_2 (List.mem_of_getElem? (i := 87) rfl) rfl
theorem wd_329 : (Jvm.Cond.laysFinal "StrataBase$Facts" "StrataBase$Facts" "oldest" "[I") ∈ tblG := rn_2 (List.mem_of_getElem? (i := 89) rfl) rfl
theorem wd_331 : (Jvm.Cond.laysFinal "StrataBase$Facts" "StrataBase$Facts" "newest" "[I") ∈ tblG := rn_2 (List.mem_of_getElem? (i := 91) rfl) rfl
theorem wd_333 : (Jvm.Cond.laysFinal "StrataBase$Facts" "StrataBase$Facts" "known" "[I") ∈ tblG := rn_2 (List.mem_of_getElem? (i := 93) rfl) rfl
theorem wd_335 : (Jvm.Cond.laysFinal "StrataBase$Facts" "StrataBase$Facts" "knownBefore" "[I") ∈ tblG := rn_2 (List.mem_of_getElem? (i := 95) rfl) rfl
theorem wd_337 : (Jvm.Cond.lays "StrataBase$Facts" "StrataBase$Facts" "visible" "I") ∈ tblG := rn_2 (List.mem_of_getElem? (i := 97) rfl) rfl
theorem wd_340 : (Jvm.Cond.classLink "StrataBase" (47 : Nat) "StrataBase$Join") ∈ tblG := rn_2 (List.mem_of_getElem? (i := 100) rfl) rfl
theorem wd_341 : (Jvm.Cond.instantiable "StrataBase$Join" (11 : Nat)) ∈ tblG := rn_2 (List.mem_of_getElem? (i := 101) rfl) rfl
theorem wd_342 : (Jvm.Cond.methodLink "StrataBase" (49 : Nat) ({ cls := "StrataBase$Join", name := "<init>", desc := "(LStrataBase$Facts;)V" } : Jvm.MethodName)) ∈ tblG := rn_2 (List.mem_of_getElem? (i := 102) rfl) rfl
theorem wd_343 : (Jvm.Cond.instanceMethod ({ cls := "StrataBase$Join", name := "<init>", desc := "(LStrataBase$Facts;)V" } : Jvm.MethodName)) ∈ tblG := rn_2 (List.mem_of_getElem? (i := 103) rfl) rfl
theorem wd_344 : (Jvm.Cond.code ({ cls := "StrataBase$Join", name := "<init>", desc := "(LStrataBase$Facts;)V" } : Jvm.MethodName) prog_6_method_1_code (3 : Nat) (Option.none : Option Jvm.ClassFile.FieldType)) ∈ tblG := rn_2 (List.mem_of_getElem? (i := 104) rfl) rfl
theorem wd_345 : (Jvm.Cond.methodLink "StrataBase$Join" (3 : Nat) ({ cls := "java/lang/Object", name := "<init>", desc := "()V" } : Jvm.MethodName)) ∈ tblG := rn_2 (List.mem_of_getElem? (i := 105) rfl) rfl
theorem wd_346 : (Jvm.Cond.classLink "StrataBase$Join" (21 : Nat) "StrataBase$Indexes") ∈ tblG := rn_2 (List.mem_of_getElem? (i := 106) rfl) rfl
theorem wd_347 : (Jvm.Cond.instantiable "StrataBase$Indexes" (9 : Nat)) ∈ tblG := rn_2 (List.mem_of_getElem? (i := 107) rfl) rfl
theorem wd_348 : (Jvm.Cond.methodLink "StrataBase$Join" (23 : Nat) ({ cls := "StrataBase$Indexes", name := "<init>", desc := "()V" } : Jvm.MethodName)) ∈ tblG := rn_2 (List.mem_of_getElem? (i := 108) rfl) rfl
theorem wd_349 : (Jvm.Cond.instanceMethod ({ cls := "StrataBase$Indexes", name := "<init>", desc := "()V" } : Jvm.MethodName)) ∈ tblG := rn_2 (List.mem_of_getElem? (i := 109) rfl) rfl
theorem wd_350 : (Jvm.Cond.code ({ cls := "StrataBase$Indexes", name := "<init>", desc := "()V" } : Jvm.MethodName) prog_5_method_1_code (1 : Nat) (Option.none : Option Jvm.ClassFile.FieldType)) ∈ tblG := rn_2 (List.mem_of_getElem? (i := 110) rfl) rfl
theorem wd_351 : (Jvm.Cond.methodLink "StrataBase$Indexes" (3 : Nat) ({ cls := "java/lang/Object", name := "<init>", desc := "()V" } : Jvm.MethodName)) ∈ tblG := rn_2 (List.mem_of_getElem? (i := 111) rfl) rfl
theorem wd_352 : (Jvm.Cond.fieldLink "StrataBase$Indexes" (34 : Nat) "StrataBase$Indexes" "size" "I") ∈ tblG := rn_2 (List.mem_of_getElem? (i := 112) rfl) rfl
theorem wd_353 : (Jvm.Cond.fieldLink "StrataBase$Indexes" (11 : Nat) "StrataBase$Indexes" "shapes" "[I") ∈ tblG := rn_2 (List.mem_of_getElem? (i := 113) rfl) rfl
theorem wd_354 : (Jvm.Cond.fieldLink "StrataBase$Indexes" (15 : Nat) "StrataBase$Indexes" "fixed" "[J") ∈ tblG := rn_2 (List.mem_of_getElem? (i := 114) rfl) rfl
theorem wd_355 : (Jvm.Cond.fieldLink "StrataBase$Indexes" (19 : Nat) "StrataBase$Indexes" "firsts" "[I") ∈ tblG := rn_2 (List.mem_of_getElem? (i := 115) rfl) rfl
theorem wd_356 : (Jvm.Cond.fieldLink "StrataBase$Indexes" (22 : Nat) "StrataBase$Indexes" "lasts" "[I") ∈ tblG := rn_2 (List.mem_of_getElem? (i := 116) rfl) rfl
theorem wd_357 : (Jvm.Cond.fieldLink "StrataBase$Indexes" (25 : Nat) "StrataBase$Indexes" "froms" "[I") ∈ tblG := rn_2 (List.mem_of_getElem? (i := 117) rfl) rfl
theorem wd_358 : (Jvm.Cond.fieldLink "StrataBase$Indexes" (28 : Nat) "StrataBase$Indexes" "tos" "[I") ∈ tblG := rn_2 (List.mem_of_getElem? (i := 118) rfl) rfl
theorem wd_359 : (Jvm.Cond.fieldLink "StrataBase$Indexes" (31 : Nat) "StrataBase$Indexes" "pool" "[J") ∈ tblG := rn_2 (List.mem_of_getElem? (i := 119) rfl) rfl
theorem wd_360 : (Jvm.Cond.fieldLink "StrataBase$Indexes" (38 : Nat) "StrataBase$Indexes" "used" "I") ∈ tblG := rn_2 (List.mem_of_getElem? (i := 120) rfl) rfl
theorem wd_361 : (Jvm.Cond.lays "StrataBase$Indexes" "StrataBase$Indexes" "size" "I") ∈ tblG := rn_2 (List.mem_of_getElem? (i := 121) rfl) rfl
theorem wd_363 : (Jvm.Cond.laysFinal "StrataBase$Indexes" "StrataBase$Indexes" "shapes" "[I") ∈ tblG := rn_2 (List.mem_of_getElem? (i := 123) rfl) rfl
theorem wd_365 : (Jvm.Cond.laysFinal "StrataBase$Indexes" "StrataBase$Indexes" "fixed" "[J") ∈ tblG := rn_2 (List.mem_of_getElem? (i := 125) rfl) rfl
theorem wd_367 : (Jvm.Cond.laysFinal "StrataBase$Indexes" "StrataBase$Indexes" "firsts" "[I") ∈ tblG := rn_2 (List.mem_of_getElem? (i := 127) rfl) rfl
theorem wd_369 : (Jvm.Cond.laysFinal "StrataBase$Indexes" "StrataBase$Indexes" "lasts" "[I") ∈ tblG := rn_2 (List.mem_of_getElem? (i := 129) rfl) rfl
theorem wd_371 : (Jvm.Cond.laysFinal "StrataBase$Indexes" "StrataBase$Indexes" "froms" "[I") ∈ tblG := rn_2 (List.mem_of_getElem? (i := 131) rfl) rfl
theorem wd_373 : (Jvm.Cond.laysFinal "StrataBase$Indexes" "StrataBase$Indexes" "tos" "[I") ∈ tblG := rn_2 (List.mem_of_getElem? (i := 133) rfl) rfl
theorem wd_375 : (Jvm.Cond.lays "StrataBase$Indexes" "StrataBase$Indexes" "pool" "[J") ∈ tblG := rn_2 (List.mem_of_getElem? (i := 135) rfl) rfl
theorem wd_377 : (Jvm.Cond.lays "StrataBase$Indexes" "StrataBase$Indexes" "used" "I") ∈ tblG := rn_2 (List.mem_of_getElem? (i := 137) rfl) rfl
theorem wd_380 : (Jvm.Cond.classLink "StrataBase$Join" (28 : Nat) "StrataBase$Step") ∈ tblG := rn_2 (List.mem_of_getElem? (i := 140) rfl) rfl
theorem wd_382 : (Jvm.Cond.instantiable "StrataBase$Step" (17 : Nat)) ∈ tblG := rn_2 (List.mem_of_getElem? (i := 142) rfl) rfl
theorem wd_383 : (Jvm.Cond.methodLink "StrataBase$Join" (34 : Nat) ({ cls := "StrataBase$Step", name := "<init>", desc := "()V" } : Jvm.MethodName)) ∈ tblG := rn_2 (List.mem_of_getElem? (i := 143) rfl) rfl
theorem wd_384 : (Jvm.Cond.instanceMethod ({ cls := "StrataBase$Step", name := "<init>", desc := "()V" } : Jvm.MethodName)) ∈ tblG := rn_2 (List.mem_of_getElem? (i := 144) rfl) rfl
theorem wd_385 : (Jvm.Cond.code ({ cls := "StrataBase$Step", name := "<init>", desc := "()V" } : Jvm.MethodName) prog_11_method_1_code (1 : Nat) (Option.none : Option Jvm.ClassFile.FieldType)) ∈ tblG := rn_2 (List.mem_of_getElem? (i := 145) rfl) rfl
theorem wd_386 : (Jvm.Cond.methodLink "StrataBase$Step" (3 : Nat) ({ cls := "java/lang/Object", name := "<init>", desc := "()V" } : Jvm.MethodName)) ∈ tblG := rn_2 (List.mem_of_getElem? (i := 146) rfl) rfl
theorem wd_387 : (Jvm.Cond.fieldLink "StrataBase$Step" (23 : Nat) "StrataBase$Step" "literal" "I") ∈ tblG := rn_2 (List.mem_of_getElem? (i := 147) rfl) rfl
theorem wd_388 : (Jvm.Cond.fieldLink "StrataBase$Join" (150 : Nat) "StrataBase$Step" "literal" "I") ∈ tblG := rn_2 (List.mem_of_getElem? (i := 148) rfl) rfl
theorem wd_389 : (Jvm.Cond.fieldLink "StrataBase$Join" (159 : Nat) "StrataBase$Step" "scans" "Z") ∈ tblG := rn_2 (List.mem_of_getElem? (i := 149) rfl) rfl
theorem wd_390 : (Jvm.Cond.fieldLink "StrataBase$Indexes" (57 : Nat) "StrataBase$Step" "freshOnly" "Z") ∈ tblG := rn_2 (List.mem_of_getElem? (i := 150) rfl) rfl
theorem wd_391 : (Jvm.Cond.fieldLink "StrataBase$Join" (153 : Nat) "StrataBase$Step" "freshOnly" "Z") ∈ tblG := rn_2 (List.mem_of_getElem? (i := 151) rfl) rfl
theorem wd_392 : (Jvm.Cond.fieldLink "StrataBase$Step" (46 : Nat) "StrataBase$Step" "bound" "I") ∈ tblG := rn_2 (List.mem_of_getElem? (i := 152) rfl) rfl
theorem wd_393 : (Jvm.Cond.fieldLink "StrataBase$Join" (156 : Nat) "StrataBase$Step" "bound" "I") ∈ tblG := rn_2 (List.mem_of_getElem? (i := 153) rfl) rfl
theorem wd_394 : (Jvm.Cond.fieldLink "StrataBase$Step" (62 : Nat) "StrataBase$Step" "live" "I") ∈ tblG := rn_2 (List.mem_of_getElem? (i := 154) rfl) rfl
theorem wd_395 : (Jvm.Cond.fieldLink "StrataBase$Join" (177 : Nat) "StrataBase$Step" "live" "I") ∈ tblG := rn_2 (List.mem_of_getElem? (i := 155) rfl) rfl
theorem wd_396 : (Jvm.Cond.fieldLink "StrataBase$Step" (59 : Nat) "StrataBase$Step" "soughtMask" "I") ∈ tblG := rn_2 (List.mem_of_getElem? (i := 156) rfl) rfl
theorem wd_397 : (Jvm.Cond.fieldLink "StrataBase$Join" (211 : Nat) "StrataBase$Step" "soughtMask" "I") ∈ tblG := rn_2 (List.mem_of_getElem? (i := 157) rfl) rfl
theorem wd_398 : (Jvm.Cond.fieldLink "StrataBase$Step" (65 : Nat) "StrataBase$Step" "givenMask" "I") ∈ tblG := rn_2 (List.mem_of_getElem? (i := 158) rfl) rfl
theorem wd_399 : (Jvm.Cond.fieldLink "StrataBase$Join" (232 : Nat) "StrataBase$Step" "givenMask" "I") ∈ tblG := rn_2 (List.mem_of_getElem? (i := 159) rfl) rfl
theorem wd_400 : (Jvm.Cond.fieldLink "StrataBase$Step" (53 : Nat) "StrataBase$Step" "sought" "I") ∈ tblG := rn_2 (List.mem_of_getElem? (i := 160) rfl) rfl
theorem wd_401 : (Jvm.Cond.fieldLink "StrataBase$Join" (208 : Nat) "StrataBase$Step" "sought" "I") ∈ tblG := rn_2 (List.mem_of_getElem? (i := 161) rfl) rfl
theorem wd_402 : (Jvm.Cond.fieldLink "StrataBase$Step" (39 : Nat) "StrataBase$Step" "width" "I") ∈ tblG := rn_2 (List.mem_of_getElem? (i := 162) rfl) rfl
theorem wd_403 : (Jvm.Cond.fieldLink "StrataBase$Step" (30 : Nat) "StrataBase$Step" "predicate" "I") ∈ tblG := rn_2 (List.mem_of_getElem? (i := 163) rfl) rfl
theorem wd_404 : (Jvm.Cond.fieldLink "StrataBase$Indexes" (52 : Nat) "StrataBase$Step" "predicate" "I") ∈ tblG := rn_2 (List.mem_of_getElem? (i := 164) rfl) rfl
theorem wd_405 : (Jvm.Cond.fieldLink "StrataBase$Join" (184 : Nat) "StrataBase$Step" "predicate" "I") ∈ tblG := rn_2 (List.mem_of_getElem? (i := 165) rfl) rfl
theorem wd_406 : (Jvm.Cond.fieldLink "StrataBase$Step" (76 : Nat) "StrataBase$Step" "ordered" "Z") ∈ tblG := rn_2 (List.mem_of_getElem? (i := 166) rfl) rfl
theorem wd_407 : (Jvm.Cond.fieldLink "StrataBase$Indexes" (99 : Nat) "StrataBase$Step" "ordered" "Z") ∈ tblG := rn_2 (List.mem_of_getElem? (i := 167) rfl) rfl
theorem wd_408 : (Jvm.Cond.fieldLink "StrataBase$Step" (80 : Nat) "StrataBase$Step" "shape" "I") ∈ tblG := rn_2 (List.mem_of_getElem? (i := 168) rfl) rfl
theorem wd_409 : (Jvm.Cond.fieldLink "StrataBase$Indexes" (71 : Nat) "StrataBase$Step" "shape" "I") ∈ tblG := rn_2 (List.mem_of_getElem? (i := 169) rfl) rfl
theorem wd_410 : (Jvm.Cond.fieldLink "StrataBase$Step" (42 : Nat) "StrataBase$Step" "fixed" "J") ∈ tblG := rn_2 (List.mem_of_getElem? (i := 170) rfl) rfl
theorem wd_411 : (Jvm.Cond.fieldLink "StrataBase$Indexes" (74 : Nat) "StrataBase$Step" "fixed" "J") ∈ tblG := rn_2 (List.mem_of_getElem? (i := 171) rfl) rfl
theorem wd_412 : (Jvm.Cond.fieldLink "StrataBase$Indexes" (81 : Nat) "StrataBase$Step" "from" "I") ∈ tblG := rn_2 (List.mem_of_getElem? (i := 172) rfl) rfl
theorem wd_413 : (Jvm.Cond.fieldLink "StrataBase$Join" (214 : Nat) "StrataBase$Step" "from" "I") ∈ tblG := rn_2 (List.mem_of_getElem? (i := 173) rfl) rfl
theorem wd_414 : (Jvm.Cond.fieldLink "StrataBase$Indexes" (84 : Nat) "StrataBase$Step" "to" "I") ∈ tblG := rn_2 (List.mem_of_getElem? (i := 174) rfl) rfl
theorem wd_415 : (Jvm.Cond.fieldLink "StrataBase$Join" (217 : Nat) "StrataBase$Step" "to" "I") ∈ tblG := rn_2 (List.mem_of_getElem? (i := 175) rfl) rfl
theorem wd_416 : (Jvm.Cond.fieldLink "StrataBase$Step" (11 : Nat) "StrataBase$Step" "roles" "[I") ∈ tblG := rn_2 (List.mem_of_getElem? (i := 176) rfl) rfl
theorem wd_417 : (Jvm.Cond.fieldLink "StrataBase$Step" (17 : Nat) "StrataBase$Step" "variables" "[I") ∈ tblG := rn_2 (List.mem_of_getElem? (i := 177) rfl) rfl
theorem wd_418 : (Jvm.Cond.lays "StrataBase$Step" "StrataBase$Step" "literal" "I") ∈ tblG := rn_2 (List.mem_of_getElem? (i := 178) rfl) rfl
theorem wd_420 : (Jvm.Cond.lays "StrataBase$Step" "StrataBase$Step" "scans" "Z") ∈ tblG := rn_2 (List.mem_of_getElem? (i := 180) rfl) rfl
theorem wd_422 : (Jvm.Cond.lays "StrataBase$Step" "StrataBase$Step" "freshOnly" "Z") ∈ tblG := rn_2 (List.mem_of_getElem? (i := 182) rfl) rfl
theorem wd_424 : (Jvm.Cond.lays "StrataBase$Step" "StrataBase$Step" "bound" "I") ∈ tblG := rn_2 (List.mem_of_getElem? (i := 184) rfl) rfl
theorem wd_426 : (Jvm.Cond.lays "StrataBase$Step" "StrataBase$Step" "live" "I") ∈ tblG := rn_2 (List.mem_of_getElem? (i := 186) rfl) rfl
theorem wd_428 : (Jvm.Cond.lays "StrataBase$Step" "StrataBase$Step" "soughtMask" "I") ∈ tblG := rn_2 (List.mem_of_getElem? (i := 188) rfl) rfl
theorem wd_430 : (Jvm.Cond.lays "StrataBase$Step" "StrataBase$Step" "givenMask" "I") ∈ tblG := rn_2 (List.mem_of_getElem? (i := 190) rfl) rfl
theorem wd_432 : (Jvm.Cond.lays "StrataBase$Step" "StrataBase$Step" "sought" "I") ∈ tblG := rn_2 (List.mem_of_getElem? (i := 192) rfl) rfl
theorem wd_434 : (Jvm.Cond.lays "StrataBase$Step" "StrataBase$Step" "width" "I") ∈ tblG := rn_2 (List.mem_of_getElem? (i := 194) rfl) rfl
theorem wd_436 : (Jvm.Cond.lays "StrataBase$Step" "StrataBase$Step" "predicate" "I") ∈ tblG := rn_2 (List.mem_of_getElem? (i := 196) rfl) rfl
theorem wd_438 : (Jvm.Cond.lays "StrataBase$Step" "StrataBase$Step" "ordered" "Z") ∈ tblG := rn_2 (List.mem_of_getElem? (i := 198) rfl) rfl
theorem wd_440 : (Jvm.Cond.lays "StrataBase$Step" "StrataBase$Step" "shape" "I") ∈ tblG := rn_2 (List.mem_of_getElem? (i := 200) rfl) rfl
theorem wd_442 : (Jvm.Cond.lays "StrataBase$Step" "StrataBase$Step" "fixed" "J") ∈ tblG := rn_2 (List.mem_of_getElem? (i := 202) rfl) rfl
theorem wd_444 : (Jvm.Cond.lays "StrataBase$Step" "StrataBase$Step" "from" "I") ∈ tblG := rn_2 (List.mem_of_getElem? (i := 204) rfl) rfl
theorem wd_446 : (Jvm.Cond.lays "StrataBase$Step" "StrataBase$Step" "to" "I") ∈ tblG := rn_2 (List.mem_of_getElem? (i := 206) rfl) rfl
theorem wd_448 : (Jvm.Cond.laysFinal "StrataBase$Step" "StrataBase$Step" "roles" "[I") ∈ tblG := rn_2 (List.mem_of_getElem? (i := 208) rfl) rfl
theorem wd_450 : (Jvm.Cond.laysFinal "StrataBase$Step" "StrataBase$Step" "variables" "[I") ∈ tblG := rn_2 (List.mem_of_getElem? (i := 210) rfl) rfl
theorem wd_453 : (Jvm.Cond.fieldLink "StrataBase$Join" (17 : Nat) "StrataBase$Join" "values" "[I") ∈ tblG := rn_2 (List.mem_of_getElem? (i := 213) rfl) rfl
theorem wd_454 : (Jvm.Cond.fieldLink "StrataBase" (190 : Nat) "StrataBase$Join" "values" "[I") ∈ tblG := rn_2 (List.mem_of_getElem? (i := 214) rfl) rfl
theorem wd_455 : (Jvm.Cond.fieldLink "StrataBase$Join" (9 : Nat) "StrataBase$Join" "facts" "LStrataBase$Facts;") ∈ tblG := rn_2 (List.mem_of_getElem? (i := 215) rfl) rfl
theorem wd_456 : (Jvm.Cond.fieldLink "StrataBase$Join" (24 : Nat) "StrataBase$Join" "indexes" "LStrataBase$Indexes;") ∈ tblG := rn_2 (List.mem_of_getElem? (i := 216) rfl) rfl
theorem wd_457 : (Jvm.Cond.fieldLink "StrataBase$Join" (30 : Nat) "StrataBase$Join" "steps" "[LStrataBase$Step;") ∈ tblG := rn_2 (List.mem_of_getElem? (i := 217) rfl) rfl
theorem wd_458 : (Jvm.Cond.fieldLink "StrataBase$Join" (143 : Nat) "StrataBase$Join" "stepCount" "I") ∈ tblG := rn_2 (List.mem_of_getElem? (i := 218) rfl) rfl
theorem wd_459 : (Jvm.Cond.fieldLink "StrataBase$Join" (38 : Nat) "StrataBase$Join" "clauses" "LStrataBase$Clauses;") ∈ tblG := rn_2 (List.mem_of_getElem? (i := 219) rfl) rfl
theorem wd_460 : (Jvm.Cond.fieldLink "StrataBase$Join" (46 : Nat) "StrataBase$Join" "head" "I") ∈ tblG := rn_2 (List.mem_of_getElem? (i := 220) rfl) rfl
theorem wd_461 : (Jvm.Cond.fieldLink "StrataBase$Join" (42 : Nat) "StrataBase$Join" "rows" "LStrataBase$Rows;") ∈ tblG := rn_2 (List.mem_of_getElem? (i := 221) rfl) rfl
theorem wd_462 : (Jvm.Cond.fieldLink "StrataBase$Join" (73 : Nat) "StrataBase$Join" "stage" "I") ∈ tblG := rn_2 (List.mem_of_getElem? (i := 222) rfl) rfl
theorem wd_463 : (Jvm.Cond.fieldLink "StrataBase$Join" (56 : Nat) "StrataBase$Join" "output" "I") ∈ tblG := rn_2 (List.mem_of_getElem? (i := 223) rfl) rfl
theorem wd_464 : (Jvm.Cond.fieldLink "StrataBase$Join" (124 : Nat) "StrataBase$Join" "stopped" "Z") ∈ tblG := rn_2 (List.mem_of_getElem? (i := 224) rfl) rfl
theorem wd_465 : (Jvm.Cond.laysFinal "StrataBase$Join" "StrataBase$Join" "values" "[I") ∈ tblG := rn_2 (List.mem_of_getElem? (i := 225) rfl) rfl
theorem wd_467 : (Jvm.Cond.laysFinal "StrataBase$Join" "StrataBase$Join" "facts" "LStrataBase$Facts;") ∈ tblG := rn_2 (List.mem_of_getElem? (i := 227) rfl) rfl
theorem wd_469 : (Jvm.Cond.laysFinal "StrataBase$Join" "StrataBase$Join" "indexes" "LStrataBase$Indexes;") ∈ tblG := rn_2 (List.mem_of_getElem? (i := 229) rfl) rfl
theorem wd_471 : (Jvm.Cond.laysFinal "StrataBase$Join" "StrataBase$Join" "steps" "[LStrataBase$Step;") ∈ tblG := rn_2 (List.mem_of_getElem? (i := 231) rfl) rfl
theorem wd_473 : (Jvm.Cond.lays "StrataBase$Join" "StrataBase$Join" "stepCount" "I") ∈ tblG := rn_2 (List.mem_of_getElem? (i := 233) rfl) rfl
theorem wd_475 : (Jvm.Cond.lays "StrataBase$Join" "StrataBase$Join" "clauses" "LStrataBase$Clauses;") ∈ tblG := rn_2 (List.mem_of_getElem? (i := 235) rfl) rfl
theorem wd_477 : (Jvm.Cond.lays "StrataBase$Join" "StrataBase$Join" "head" "I") ∈ tblG := rn_2 (List.mem_of_getElem? (i := 237) rfl) rfl
theorem wd_479 : (Jvm.Cond.lays "StrataBase$Join" "StrataBase$Join" "rows" "LStrataBase$Rows;") ∈ tblG := rn_2 (List.mem_of_getElem? (i := 239) rfl) rfl
theorem wd_481 : (Jvm.Cond.lays "StrataBase$Join" "StrataBase$Join" "stage" "I") ∈ tblG := rn_3 (List.mem_of_getElem? (i := 1) rfl) rfl
theorem wd_483 : (Jvm.Cond.lays "StrataBase$Join" "StrataBase$Join" "output" "I") ∈ tblG := rn_3 (List.mem_of_getElem? (i := 3) rfl) rfl
theorem wd_485 : (Jvm.Cond.lays "StrataBase$Join" "StrataBase$Join" "stopped" "Z") ∈ tblG := rn_3 (List.mem_of_getElem? (i := 5) rfl) rfl
theorem wd_488 : (Jvm.Cond.classLink "StrataBase" (56 : Nat) "StrataBase$Rows") ∈ tblG := rn_3 (List.mem_of_getElem? (i := 8) rfl) rfl
theorem wd_489 : (Jvm.Cond.instantiable "StrataBase$Rows" (6 : Nat)) ∈ tblG := rn_3 (List.mem_of_getElem? (i := 9) rfl) rfl
theorem wd_490 : (Jvm.Cond.methodLink "StrataBase" (58 : Nat) ({ cls := "StrataBase$Rows", name := "<init>", desc := "()V" } : Jvm.MethodName)) ∈ tblG := rn_3 (List.mem_of_getElem? (i := 10) rfl) rfl
theorem wd_491 : (Jvm.Cond.instanceMethod ({ cls := "StrataBase$Rows", name := "<init>", desc := "()V" } : Jvm.MethodName)) ∈ tblG := rn_3 (List.mem_of_getElem? (i := 11) rfl) rfl
theorem wd_492 : (Jvm.Cond.code ({ cls := "StrataBase$Rows", name := "<init>", desc := "()V" } : Jvm.MethodName) prog_10_method_1_code (1 : Nat) (Option.none : Option Jvm.ClassFile.FieldType)) ∈ tblG := rn_3 (List.mem_of_getElem? (i := 12) rfl) rfl
theorem wd_493 : (Jvm.Cond.methodLink "StrataBase$Rows" (1 : Nat) ({ cls := "java/lang/Object", name := "<init>", desc := "()V" } : Jvm.MethodName)) ∈ tblG := rn_3 (List.mem_of_getElem? (i := 13) rfl) rfl
theorem wd_494 : (Jvm.Cond.fieldLink "StrataBase$Rows" (22 : Nat) "StrataBase$Rows" "size" "I") ∈ tblG := rn_3 (List.mem_of_getElem? (i := 14) rfl) rfl
theorem wd_495 : (Jvm.Cond.fieldLink "StrataBase" (155 : Nat) "StrataBase$Rows" "size" "I") ∈ tblG := rn_3 (List.mem_of_getElem? (i := 15) rfl) rfl
theorem wd_496 : (Jvm.Cond.fieldLink "StrataBase$Rows" (26 : Nat) "StrataBase$Rows" "width" "I") ∈ tblG := rn_3 (List.mem_of_getElem? (i := 16) rfl) rfl
theorem wd_497 : (Jvm.Cond.fieldLink "StrataBase" (156 : Nat) "StrataBase$Rows" "width" "I") ∈ tblG := rn_3 (List.mem_of_getElem? (i := 17) rfl) rfl
theorem wd_498 : (Jvm.Cond.fieldLink "StrataBase$Rows" (29 : Nat) "StrataBase$Rows" "full" "Z") ∈ tblG := rn_3 (List.mem_of_getElem? (i := 18) rfl) rfl
theorem wd_499 : (Jvm.Cond.fieldLink "StrataBase" (151 : Nat) "StrataBase$Rows" "full" "Z") ∈ tblG := rn_3 (List.mem_of_getElem? (i := 19) rfl) rfl
theorem wd_500 : (Jvm.Cond.fieldLink "StrataBase$Join" (246 : Nat) "StrataBase$Rows" "full" "Z") ∈ tblG := rn_3 (List.mem_of_getElem? (i := 20) rfl) rfl
theorem wd_501 : (Jvm.Cond.fieldLink "StrataBase$Rows" (9 : Nat) "StrataBase$Rows" "left" "[J") ∈ tblG := rn_3 (List.mem_of_getElem? (i := 21) rfl) rfl
theorem wd_502 : (Jvm.Cond.fieldLink "StrataBase$Rows" (13 : Nat) "StrataBase$Rows" "right" "[J") ∈ tblG := rn_3 (List.mem_of_getElem? (i := 22) rfl) rfl
theorem wd_503 : (Jvm.Cond.fieldLink "StrataBase$Rows" (18 : Nat) "StrataBase$Rows" "variables" "[I") ∈ tblG := rn_3 (List.mem_of_getElem? (i := 23) rfl) rfl
theorem wd_504 : (Jvm.Cond.lays "StrataBase$Rows" "StrataBase$Rows" "size" "I") ∈ tblG := rn_3 (List.mem_of_getElem? (i := 24) rfl) rfl
theorem wd_506 : (Jvm.Cond.lays "StrataBase$Rows" "StrataBase$Rows" "width" "I") ∈ tblG := rn_3 (List.mem_of_getElem? (i := 26) rfl) rfl
theorem wd_508 : (Jvm.Cond.lays "StrataBase$Rows" "StrataBase$Rows" "full" "Z") ∈ tblG := rn_3 (List.mem_of_getElem? (i := 28) rfl) rfl
theorem wd_510 : (Jvm.Cond.laysFinal "StrataBase$Rows" "StrataBase$Rows" "left" "[J") ∈ tblG := rn_3 (List.mem_of_getElem? (i := 30) rfl) rfl
theorem wd_512 : (Jvm.Cond.laysFinal "StrataBase$Rows" "StrataBase$Rows" "right" "[J") ∈ tblG := rn_3 (List.mem_of_getElem? (i := 32) rfl) rfl
theorem wd_514 : (Jvm.Cond.laysFinal "StrataBase$Rows" "StrataBase$Rows" "variables" "[I") ∈ tblG := rn_3 (List.mem_of_getElem? (i := 34) rfl) rfl
theorem wd_517 : (Jvm.Cond.fieldLink "StrataBase" (10 : Nat) "StrataBase" "tape" "[B") ∈ tblG := rn_3 (List.mem_of_getElem? (i := 37) rfl) rfl
theorem wd_518 : (Jvm.Cond.fieldLink "StrataBase" (66 : Nat) "StrataBase" "tapeLength" "I") ∈ tblG := rn_3 (List.mem_of_getElem? (i := 38) rfl) rfl
theorem wd_519 : (Jvm.Cond.fieldLink "StrataBase" (92 : Nat) "StrataBase" "faultCode" "I") ∈ tblG := rn_3 (List.mem_of_getElem? (i := 39) rfl) rfl
theorem wd_520 : (Jvm.Cond.fieldLink "StrataBase" (17 : Nat) "StrataBase" "program" "LStrataBase$Program;") ∈ tblG := rn_3 (List.mem_of_getElem? (i := 40) rfl) rfl
theorem wd_521 : (Jvm.Cond.fieldLink "StrataBase" (21 : Nat) "StrataBase" "spare" "LStrataBase$Program;") ∈ tblG := rn_3 (List.mem_of_getElem? (i := 41) rfl) rfl
theorem wd_522 : (Jvm.Cond.fieldLink "StrataBase" (29 : Nat) "StrataBase" "question" "LStrataBase$Clauses;") ∈ tblG := rn_3 (List.mem_of_getElem? (i := 42) rfl) rfl
theorem wd_523 : (Jvm.Cond.fieldLink "StrataBase" (36 : Nat) "StrataBase" "reader" "LStrataBase$Reader;") ∈ tblG := rn_3 (List.mem_of_getElem? (i := 43) rfl) rfl
theorem wd_524 : (Jvm.Cond.fieldLink "StrataBase" (43 : Nat) "StrataBase" "facts" "LStrataBase$Facts;") ∈ tblG := rn_3 (List.mem_of_getElem? (i := 44) rfl) rfl
theorem wd_525 : (Jvm.Cond.fieldLink "StrataBase" (52 : Nat) "StrataBase" "join" "LStrataBase$Join;") ∈ tblG := rn_3 (List.mem_of_getElem? (i := 45) rfl) rfl
theorem wd_526 : (Jvm.Cond.fieldLink "StrataBase" (59 : Nat) "StrataBase" "rows" "LStrataBase$Rows;") ∈ tblG := rn_3 (List.mem_of_getElem? (i := 46) rfl) rfl
theorem wd_527 : (Jvm.Cond.fieldLink "StrataBase" (63 : Nat) "StrataBase" "spareRows" "LStrataBase$Rows;") ∈ tblG := rn_3 (List.mem_of_getElem? (i := 47) rfl) rfl
theorem wd_528 : (Jvm.Cond.fieldLink "StrataBase" (105 : Nat) "StrataBase" "ran" "Z") ∈ tblG := rn_3 (List.mem_of_getElem? (i := 48) rfl) rfl
theorem wd_529 : (Jvm.Cond.fieldLink "StrataBase" (109 : Nat) "StrataBase" "overflowed" "Z") ∈ tblG := rn_3 (List.mem_of_getElem? (i := 49) rfl) rfl
theorem wd_530 : (Jvm.Cond.laysFinal "StrataBase" "StrataBase" "tape" "[B") ∈ tblG := rn_3 (List.mem_of_getElem? (i := 50) rfl) rfl
theorem wd_532 : (Jvm.Cond.lays "StrataBase" "StrataBase" "tapeLength" "I") ∈ tblG := rn_3 (List.mem_of_getElem? (i := 52) rfl) rfl
theorem wd_534 : (Jvm.Cond.lays "StrataBase" "StrataBase" "faultCode" "I") ∈ tblG := rn_3 (List.mem_of_getElem? (i := 54) rfl) rfl
theorem wd_536 : (Jvm.Cond.lays "StrataBase" "StrataBase" "program" "LStrataBase$Program;") ∈ tblG := rn_3 (List.mem_of_getElem? (i := 56) rfl) rfl
theorem wd_538 : (Jvm.Cond.lays "StrataBase" "StrataBase" "spare" "LStrataBase$Program;") ∈ tblG := rn_3 (List.mem_of_getElem? (i := 58) rfl) rfl
theorem wd_540 : (Jvm.Cond.laysFinal "StrataBase" "StrataBase" "question" "LStrataBase$Clauses;") ∈ tblG := rn_3 (List.mem_of_getElem? (i := 60) rfl) rfl
theorem wd_542 : (Jvm.Cond.laysFinal "StrataBase" "StrataBase" "reader" "LStrataBase$Reader;") ∈ tblG := rn_3 (List.mem_of_getElem? (i := 62) rfl) rfl
theorem wd_544 : (Jvm.Cond.laysFinal "StrataBase" "StrataBase" "facts" "LStrataBase$Facts;") ∈ tblG := rn_3 (List.mem_of_getElem? (i := 64) rfl) rfl
theorem wd_546 : (Jvm.Cond.laysFinal "StrataBase" "StrataBase" "join" "LStrataBase$Join;") ∈ tblG := rn_3 (List.mem_of_getElem? (i := 66) rfl) rfl
theorem wd_548 : (Jvm.Cond.lays "StrataBase" "StrataBase" "rows" "LStrataBase$Rows;") ∈ tblG := rn_3 (List.mem_of_getElem? (i := 68) rfl) rfl
theorem wd_550 : (Jvm.Cond.lays "StrataBase" "StrataBase" "spareRows" "LStrataBase$Rows;") ∈ tblG := rn_3 (List.mem_of_getElem? (i := 70) rfl) rfl
theorem wd_552 : (Jvm.Cond.lays "StrataBase" "StrataBase" "ran" "Z") ∈ tblG := rn_3 (List.mem_of_getElem? (i := 72) rfl) rfl
theorem wd_554 : (Jvm.Cond.lays "StrataBase" "StrataBase" "overflowed" "Z") ∈ tblG := rn_3 (List.mem_of_getElem? (i := 74) rfl) rfl
theorem wd_557 : (Jvm.Cond.methodLink "StrataBaseLaw" (68 : Nat) ({ cls := "StrataBase", name := "load", desc := "()I" } : Jvm.MethodName)) ∈ tblG := rn_3 (List.mem_of_getElem? (i := 77) rfl) rfl
theorem wd_558 : (Jvm.Cond.instanceMethod ({ cls := "StrataBase", name := "load", desc := "()I" } : Jvm.MethodName)) ∈ tblG := rn_3 (List.mem_of_getElem? (i := 78) rfl) rfl
theorem wd_559 : (Jvm.Cond.selects "StrataBase" ({ cls := "StrataBase", name := "load", desc := "()I" } : Jvm.MethodName) ({ cls := "StrataBase", name := "load", desc := "()I" } : Jvm.MethodName)) ∈ tblG := rn_3 (List.mem_of_getElem? (i := 79) rfl) rfl
theorem wd_560 : (Jvm.Cond.code ({ cls := "StrataBase", name := "load", desc := "()I" } : Jvm.MethodName) prog_1_method_4_code (2 : Nat) (Option.some Jvm.ClassFile.FieldType.int)) ∈ tblG := rn_3 (List.mem_of_getElem? (i := 80) rfl) rfl
theorem wd_561 : (Jvm.Cond.methodLink "StrataBase" (82 : Nat) ({ cls := "StrataBase$Reader", name := "read", desc := "(I[BILStrataBase$Program;LStrataBase$Clauses;)V" } : Jvm.MethodName)) ∈ tblG := rn_3 (List.mem_of_getElem? (i := 81) rfl) rfl
theorem wd_562 : (Jvm.Cond.instanceMethod ({ cls := "StrataBase$Reader", name := "read", desc := "(I[BILStrataBase$Program;LStrataBase$Clauses;)V" } : Jvm.MethodName)) ∈ tblG := rn_3 (List.mem_of_getElem? (i := 82) rfl) rfl
theorem wd_563 : (Jvm.Cond.selects "StrataBase$Reader" ({ cls := "StrataBase$Reader", name := "read", desc := "(I[BILStrataBase$Program;LStrataBase$Clauses;)V" } : Jvm.MethodName) ({ cls := "StrataBase$Reader", name := "read", desc := "(I[BILStrataBase$Program;LStrataBase$Clauses;)V" } : Jvm.MethodName)) ∈ tblG := rn_3 (List.mem_of_getElem? (i := 83) rfl) rfl
theorem wd_564 : (Jvm.Cond.code ({ cls := "StrataBase$Reader", name := "read", desc := "(I[BILStrataBase$Program;LStrataBase$Clauses;)V" } : Jvm.MethodName) prog_9_method_2_code (7 : Nat) (Option.none : Option Jvm.ClassFile.FieldType)) ∈ tblG := rn_3 (List.mem_of_getElem? (i := 84) rfl) rfl
theorem wd_565 : (Jvm.Cond.methodLink "StrataBase$Reader" (58 : Nat) ({ cls := "StrataBase$Tokens", name := "open", desc := "([BI)V" } : Jvm.MethodName)) ∈ tblG := rn_3 (List.mem_of_getElem? (i := 85) rfl) rfl
theorem wd_566 : (Jvm.Cond.instanceMethod ({ cls := "StrataBase$Tokens", name := "open", desc := "([BI)V" } : Jvm.MethodName)) ∈ tblG := rn_3 (List.mem_of_getElem? (i := 86) rfl) rfl
theorem wd_567 : (Jvm.Cond.selects "StrataBase$Tokens" ({ cls := "StrataBase$Tokens", name := "open", desc := "([BI)V" } : Jvm.MethodName) ({ cls := "StrataBase$Tokens", name := "open", desc := "([BI)V" } : Jvm.MethodName)) ∈ tblG := rn_3 (List.mem_of_getElem? (i := 87) rfl) rfl
theorem wd_568 : (Jvm.Cond.code ({ cls := "StrataBase$Tokens", name := "open", desc := "([BI)V" } : Jvm.MethodName) prog_12_method_2_code (3 : Nat) (Option.none : Option Jvm.ClassFile.FieldType)) ∈ tblG := rn_3 (List.mem_of_getElem? (i := 88) rfl) rfl
theorem wd_569 : (Jvm.Cond.methodLink "StrataBase$Reader" (62 : Nat) ({ cls := "StrataBase$Reader", name := "begin", desc := "()V" } : Jvm.MethodName)) ∈ tblG := rn_3 (List.mem_of_getElem? (i := 89) rfl) rfl
theorem wd_571 : (Jvm.Cond.instanceMethod ({ cls := "StrataBase$Reader", name := "begin", desc := "()V" } : Jvm.MethodName)) ∈ tblG := rn_3 (List.mem_of_getElem? (i := 91) rfl) rfl
theorem wd_572 : (Jvm.Cond.code ({ cls := "StrataBase$Reader", name := "begin", desc := "()V" } : Jvm.MethodName) prog_9_method_3_code (1 : Nat) (Option.none : Option Jvm.ClassFile.FieldType)) ∈ tblG := rn_3 (List.mem_of_getElem? (i := 92) rfl) rfl
theorem wd_573 : (Jvm.Cond.methodLink "StrataBase$Reader" (107 : Nat) ({ cls := "StrataBase$Clauses", name := "clear", desc := "()V" } : Jvm.MethodName)) ∈ tblG := rn_3 (List.mem_of_getElem? (i := 93) rfl) rfl
theorem wd_574 : (Jvm.Cond.instanceMethod ({ cls := "StrataBase$Clauses", name := "clear", desc := "()V" } : Jvm.MethodName)) ∈ tblG := rn_3 (List.mem_of_getElem? (i := 94) rfl) rfl
theorem wd_575 : (Jvm.Cond.selects "StrataBase$Clauses" ({ cls := "StrataBase$Clauses", name := "clear", desc := "()V" } : Jvm.MethodName) ({ cls := "StrataBase$Clauses", name := "clear", desc := "()V" } : Jvm.MethodName)) ∈ tblG := rn_3 (List.mem_of_getElem? (i := 95) rfl) rfl
theorem wd_576 : (Jvm.Cond.code ({ cls := "StrataBase$Clauses", name := "clear", desc := "()V" } : Jvm.MethodName) prog_2_method_2_code (1 : Nat) (Option.none : Option Jvm.ClassFile.FieldType)) ∈ tblG := rn_3 (List.mem_of_getElem? (i := 96) rfl) rfl
theorem wd_577 : (Jvm.Cond.methodLink "StrataBase$Reader" (110 : Nat) ({ cls := "StrataBase$Names", name := "clear", desc := "()V" } : Jvm.MethodName)) ∈ tblG := rn_3 (List.mem_of_getElem? (i := 97) rfl) rfl
theorem wd_578 : (Jvm.Cond.instanceMethod ({ cls := "StrataBase$Names", name := "clear", desc := "()V" } : Jvm.MethodName)) ∈ tblG := rn_3 (List.mem_of_getElem? (i := 98) rfl) rfl
theorem wd_579 : (Jvm.Cond.selects "StrataBase$Names" ({ cls := "StrataBase$Names", name := "clear", desc := "()V" } : Jvm.MethodName) ({ cls := "StrataBase$Names", name := "clear", desc := "()V" } : Jvm.MethodName)) ∈ tblG := rn_3 (List.mem_of_getElem? (i := 99) rfl) rfl
theorem wd_580 : (Jvm.Cond.code ({ cls := "StrataBase$Names", name := "clear", desc := "()V" } : Jvm.MethodName) prog_7_method_2_code (1 : Nat) (Option.none : Option Jvm.ClassFile.FieldType)) ∈ tblG := rn_3 (List.mem_of_getElem? (i := 100) rfl) rfl
theorem wd_581 : (Jvm.Cond.methodLink "StrataBase$Reader" (111 : Nat) ({ cls := "StrataBase$Reader", name := "beginBody", desc := "()V" } : Jvm.MethodName)) ∈ tblG := rn_3 (List.mem_of_getElem? (i := 101) rfl) rfl
theorem wd_583 : (Jvm.Cond.instanceMethod ({ cls := "StrataBase$Reader", name := "beginBody", desc := "()V" } : Jvm.MethodName)) ∈ tblG := rn_3 (List.mem_of_getElem? (i := 103) rfl) rfl
theorem wd_584 : (Jvm.Cond.code ({ cls := "StrataBase$Reader", name := "beginBody", desc := "()V" } : Jvm.MethodName) prog_9_method_9_code (1 : Nat) (Option.none : Option Jvm.ClassFile.FieldType)) ∈ tblG := rn_3 (List.mem_of_getElem? (i := 104) rfl) rfl
theorem wd_585 : (Jvm.Cond.methodLink "StrataBase$Reader" (114 : Nat) ({ cls := "StrataBase$Program", name := "clear", desc := "()V" } : Jvm.MethodName)) ∈ tblG := rn_3 (List.mem_of_getElem? (i := 105) rfl) rfl
theorem wd_586 : (Jvm.Cond.instanceMethod ({ cls := "StrataBase$Program", name := "clear", desc := "()V" } : Jvm.MethodName)) ∈ tblG := rn_3 (List.mem_of_getElem? (i := 106) rfl) rfl
theorem wd_587 : (Jvm.Cond.selects "StrataBase$Program" ({ cls := "StrataBase$Program", name := "clear", desc := "()V" } : Jvm.MethodName) ({ cls := "StrataBase$Program", name := "clear", desc := "()V" } : Jvm.MethodName)) ∈ tblG := rn_3 (List.mem_of_getElem? (i := 107) rfl) rfl
theorem wd_588 : (Jvm.Cond.code ({ cls := "StrataBase$Program", name := "clear", desc := "()V" } : Jvm.MethodName) prog_8_method_2_code (1 : Nat) (Option.none : Option Jvm.ClassFile.FieldType)) ∈ tblG := rn_3 (List.mem_of_getElem? (i := 108) rfl) rfl
theorem wd_589 : (Jvm.Cond.methodLink "StrataBase$Program" (45 : Nat) ({ cls := "StrataBase$Clauses", name := "clear", desc := "()V" } : Jvm.MethodName)) ∈ tblG := rn_3 (List.mem_of_getElem? (i := 109) rfl) rfl
theorem wd_590 : (Jvm.Cond.methodLink "StrataBase$Program" (48 : Nat) ({ cls := "StrataBase$Names", name := "clear", desc := "()V" } : Jvm.MethodName)) ∈ tblG := rn_3 (List.mem_of_getElem? (i := 110) rfl) rfl
theorem wd_591 : (Jvm.Cond.methodLink "StrataBase$Program" (49 : Nat) ({ cls := "StrataBase$Constants", name := "clear", desc := "()V" } : Jvm.MethodName)) ∈ tblG := rn_3 (List.mem_of_getElem? (i := 111) rfl) rfl
theorem wd_592 : (Jvm.Cond.instanceMethod ({ cls := "StrataBase$Constants", name := "clear", desc := "()V" } : Jvm.MethodName)) ∈ tblG := rn_3 (List.mem_of_getElem? (i := 112) rfl) rfl
theorem wd_593 : (Jvm.Cond.selects "StrataBase$Constants" ({ cls := "StrataBase$Constants", name := "clear", desc := "()V" } : Jvm.MethodName) ({ cls := "StrataBase$Constants", name := "clear", desc := "()V" } : Jvm.MethodName)) ∈ tblG := rn_3 (List.mem_of_getElem? (i := 113) rfl) rfl
theorem wd_594 : (Jvm.Cond.code ({ cls := "StrataBase$Constants", name := "clear", desc := "()V" } : Jvm.MethodName) prog_3_method_2_code (1 : Nat) (Option.none : Option Jvm.ClassFile.FieldType)) ∈ tblG := rn_3 (List.mem_of_getElem? (i := 114) rfl) rfl
theorem wd_595 : (Jvm.Cond.methodLink "StrataBase$Constants" (30 : Nat) ({ cls := "StrataBase$Names", name := "clear", desc := "()V" } : Jvm.MethodName)) ∈ tblG := rn_3 (List.mem_of_getElem? (i := 115) rfl) rfl
theorem wd_596 : (Jvm.Cond.methodLink "StrataBase$Program" (50 : Nat) ({ cls := "java/util/Arrays", name := "fill", desc := "([II)V" } : Jvm.MethodName)) ∈ tblG := rn_3 (List.mem_of_getElem? (i := 116) rfl) rfl
theorem wd_597 : (Jvm.Cond.static ({ cls := "java/util/Arrays", name := "fill", desc := "([II)V" } : Jvm.MethodName)) ∈ tblG := rn_3 (List.mem_of_getElem? (i := 117) rfl) rfl
theorem wd_598 : (Jvm.Cond.code ({ cls := "java/util/Arrays", name := "fill", desc := "([II)V" } : Jvm.MethodName) prog_26_method_103_code (4 : Nat) (Option.none : Option Jvm.ClassFile.FieldType)) ∈ tblG := rn_3 (List.mem_of_getElem? (i := 118) rfl) rfl
theorem wd_599 : (Jvm.Cond.methodLink "StrataBase$Reader" (117 : Nat) ({ cls := "StrataBase$Clauses", name := "open", desc := "(II)V" } : Jvm.MethodName)) ∈ tblG := rn_3 (List.mem_of_getElem? (i := 119) rfl) rfl
theorem wd_600 : (Jvm.Cond.instanceMethod ({ cls := "StrataBase$Clauses", name := "open", desc := "(II)V" } : Jvm.MethodName)) ∈ tblG := rn_3 (List.mem_of_getElem? (i := 120) rfl) rfl
theorem wd_601 : (Jvm.Cond.selects "StrataBase$Clauses" ({ cls := "StrataBase$Clauses", name := "open", desc := "(II)V" } : Jvm.MethodName) ({ cls := "StrataBase$Clauses", name := "open", desc := "(II)V" } : Jvm.MethodName)) ∈ tblG := rn_3 (List.mem_of_getElem? (i := 121) rfl) rfl
theorem wd_602 : (Jvm.Cond.code ({ cls := "StrataBase$Clauses", name := "open", desc := "(II)V" } : Jvm.MethodName) prog_2_method_4_code (3 : Nat) (Option.none : Option Jvm.ClassFile.FieldType)) ∈ tblG := rn_3 (List.mem_of_getElem? (i := 122) rfl) rfl
theorem wd_603 : (Jvm.Cond.methodLink "StrataBase$Reader" (68 : Nat) ({ cls := "StrataBase$Tokens", name := "next", desc := "()V" } : Jvm.MethodName)) ∈ tblG := rn_3 (List.mem_of_getElem? (i := 123) rfl) rfl
theorem wd_604 : (Jvm.Cond.instanceMethod ({ cls := "StrataBase$Tokens", name := "next", desc := "()V" } : Jvm.MethodName)) ∈ tblG := rn_3 (List.mem_of_getElem? (i := 124) rfl) rfl
theorem wd_605 : (Jvm.Cond.selects "StrataBase$Tokens" ({ cls := "StrataBase$Tokens", name := "next", desc := "()V" } : Jvm.MethodName) ({ cls := "StrataBase$Tokens", name := "next", desc := "()V" } : Jvm.MethodName)) ∈ tblG := rn_3 (List.mem_of_getElem? (i := 125) rfl) rfl
theorem wd_606 : (Jvm.Cond.code ({ cls := "StrataBase$Tokens", name := "next", desc := "()V" } : Jvm.MethodName) prog_12_method_3_code (1 : Nat) (Option.none : Option Jvm.ClassFile.FieldType)) ∈ tblG := rn_3 (List.mem_of_getElem? (i := 126) rfl) rfl
theorem wd_607 : (Jvm.Cond.methodLink "StrataBase$Tokens" (20 : Nat) ({ cls := "StrataBase$Tokens", name := "skipBlanks", desc := "()V" } : Jvm.MethodName)) ∈ tblG := rn_3 (List.mem_of_getElem? (i := 127) rfl) rfl
theorem wd_609 : (Jvm.Cond.instanceMethod ({ cls := "StrataBase$Tokens", name := "skipBlanks", desc := "()V" } : Jvm.MethodName)) ∈ tblG := rn_3 (List.mem_of_getElem? (i := 129) rfl) rfl
theorem wd_610 : (Jvm.Cond.code ({ cls := "StrataBase$Tokens", name := "skipBlanks", desc := "()V" } : Jvm.MethodName) prog_12_method_7_code (2 : Nat) (Option.none : Option Jvm.ClassFile.FieldType)) ∈ tblG := rn_3 (List.mem_of_getElem? (i := 130) rfl) rfl
theorem wd_611 : (Jvm.Cond.methodLink "StrataBase$Tokens" (48 : Nat) ({ cls := "StrataBase$Tokens", name := "isBlank", desc := "(I)Z" } : Jvm.MethodName)) ∈ tblG := rn_3 (List.mem_of_getElem? (i := 131) rfl) rfl
theorem wd_612 : (Jvm.Cond.static ({ cls := "StrataBase$Tokens", name := "isBlank", desc := "(I)Z" } : Jvm.MethodName)) ∈ tblG := rn_3 (List.mem_of_getElem? (i := 132) rfl) rfl
theorem wd_613 : (Jvm.Cond.code ({ cls := "StrataBase$Tokens", name := "isBlank", desc := "(I)Z" } : Jvm.MethodName) prog_12_method_13_code (1 : Nat) (Option.some Jvm.ClassFile.FieldType.boolean)) ∈ tblG := rn_3 (List.mem_of_getElem? (i := 133) rfl) rfl
theorem wd_614 : (Jvm.Cond.methodLink "StrataBase$Tokens" (32 : Nat) ({ cls := "StrataBase$Tokens", name := "isWordByte", desc := "(I)Z" } : Jvm.MethodName)) ∈ tblG := rn_3 (List.mem_of_getElem? (i := 134) rfl) rfl
theorem wd_615 : (Jvm.Cond.static ({ cls := "StrataBase$Tokens", name := "isWordByte", desc := "(I)Z" } : Jvm.MethodName)) ∈ tblG := rn_3 (List.mem_of_getElem? (i := 135) rfl) rfl
theorem wd_616 : (Jvm.Cond.code ({ cls := "StrataBase$Tokens", name := "isWordByte", desc := "(I)Z" } : Jvm.MethodName) prog_12_method_16_code (1 : Nat) (Option.some Jvm.ClassFile.FieldType.boolean)) ∈ tblG := rn_3 (List.mem_of_getElem? (i := 136) rfl) rfl
theorem wd_617 : (Jvm.Cond.methodLink "StrataBase$Tokens" (51 : Nat) ({ cls := "StrataBase$Tokens", name := "isSmall", desc := "(I)Z" } : Jvm.MethodName)) ∈ tblG := rn_3 (List.mem_of_getElem? (i := 137) rfl) rfl
theorem wd_618 : (Jvm.Cond.static ({ cls := "StrataBase$Tokens", name := "isSmall", desc := "(I)Z" } : Jvm.MethodName)) ∈ tblG := rn_3 (List.mem_of_getElem? (i := 138) rfl) rfl
theorem wd_619 : (Jvm.Cond.code ({ cls := "StrataBase$Tokens", name := "isSmall", desc := "(I)Z" } : Jvm.MethodName) prog_12_method_15_code (1 : Nat) (Option.some Jvm.ClassFile.FieldType.boolean)) ∈ tblG := rn_3 (List.mem_of_getElem? (i := 139) rfl) rfl
theorem wd_620 : (Jvm.Cond.methodLink "StrataBase$Tokens" (36 : Nat) ({ cls := "StrataBase$Tokens", name := "isDigit", desc := "(I)Z" } : Jvm.MethodName)) ∈ tblG := rn_3 (List.mem_of_getElem? (i := 140) rfl) rfl
theorem wd_621 : (Jvm.Cond.static ({ cls := "StrataBase$Tokens", name := "isDigit", desc := "(I)Z" } : Jvm.MethodName)) ∈ tblG := rn_3 (List.mem_of_getElem? (i := 141) rfl) rfl
theorem wd_622 : (Jvm.Cond.code ({ cls := "StrataBase$Tokens", name := "isDigit", desc := "(I)Z" } : Jvm.MethodName) prog_12_method_14_code (1 : Nat) (Option.some Jvm.ClassFile.FieldType.boolean)) ∈ tblG := rn_3 (List.mem_of_getElem? (i := 142) rfl) rfl
theorem wd_623 : (Jvm.Cond.methodLink "StrataBase$Tokens" (39 : Nat) ({ cls := "StrataBase$Tokens", name := "readWord", desc := "()V" } : Jvm.MethodName)) ∈ tblG := rn_3 (List.mem_of_getElem? (i := 143) rfl) rfl
theorem wd_625 : (Jvm.Cond.instanceMethod ({ cls := "StrataBase$Tokens", name := "readWord", desc := "()V" } : Jvm.MethodName)) ∈ tblG := rn_3 (List.mem_of_getElem? (i := 145) rfl) rfl
theorem wd_626 : (Jvm.Cond.code ({ cls := "StrataBase$Tokens", name := "readWord", desc := "()V" } : Jvm.MethodName) prog_12_method_8_code (2 : Nat) (Option.none : Option Jvm.ClassFile.FieldType)) ∈ tblG := rn_3 (List.mem_of_getElem? (i := 146) rfl) rfl
theorem wd_627 : (Jvm.Cond.methodLink "StrataBase$Tokens" (54 : Nat) ({ cls := "StrataBase$Tokens", name := "isNot", desc := "()Z" } : Jvm.MethodName)) ∈ tblG := rn_3 (List.mem_of_getElem? (i := 147) rfl) rfl
theorem wd_629 : (Jvm.Cond.instanceMethod ({ cls := "StrataBase$Tokens", name := "isNot", desc := "()Z" } : Jvm.MethodName)) ∈ tblG := rn_3 (List.mem_of_getElem? (i := 149) rfl) rfl
theorem wd_630 : (Jvm.Cond.code ({ cls := "StrataBase$Tokens", name := "isNot", desc := "()Z" } : Jvm.MethodName) prog_12_method_9_code (1 : Nat) (Option.some Jvm.ClassFile.FieldType.boolean)) ∈ tblG := rn_3 (List.mem_of_getElem? (i := 150) rfl) rfl
theorem wd_631 : (Jvm.Cond.methodLink "StrataBase$Tokens" (42 : Nat) ({ cls := "StrataBase$Tokens", name := "readNumber", desc := "()V" } : Jvm.MethodName)) ∈ tblG := rn_3 (List.mem_of_getElem? (i := 151) rfl) rfl
theorem wd_633 : (Jvm.Cond.instanceMethod ({ cls := "StrataBase$Tokens", name := "readNumber", desc := "()V" } : Jvm.MethodName)) ∈ tblG := rn_3 (List.mem_of_getElem? (i := 153) rfl) rfl
theorem wd_634 : (Jvm.Cond.code ({ cls := "StrataBase$Tokens", name := "readNumber", desc := "()V" } : Jvm.MethodName) prog_12_method_10_code (5 : Nat) (Option.none : Option Jvm.ClassFile.FieldType)) ∈ tblG := rn_3 (List.mem_of_getElem? (i := 154) rfl) rfl
theorem wd_635 : (Jvm.Cond.constantLong "StrataBase$Tokens" (58 : Nat) (10 : Int64)) ∈ tblG := rn_3 (List.mem_of_getElem? (i := 155) rfl) rfl
theorem wd_636 : (Jvm.Cond.constantLong "StrataBase$Tokens" (60 : Nat) (48 : Int64)) ∈ tblG := rn_3 (List.mem_of_getElem? (i := 156) rfl) rfl
theorem wd_637 : (Jvm.Cond.constantLong "StrataBase$Tokens" (62 : Nat) (1099511627776 : Int64)) ∈ tblG := rn_3 (List.mem_of_getElem? (i := 157) rfl) rfl
theorem wd_638 : (Jvm.Cond.methodLink "StrataBase$Tokens" (64 : Nat) ({ cls := "java/lang/Math", name := "min", desc := "(JJ)J" } : Jvm.MethodName)) ∈ tblG := rn_3 (List.mem_of_getElem? (i := 158) rfl) rfl
theorem wd_639 : (Jvm.Cond.static ({ cls := "java/lang/Math", name := "min", desc := "(JJ)J" } : Jvm.MethodName)) ∈ tblG := rn_3 (List.mem_of_getElem? (i := 159) rfl) rfl
theorem wd_640 : (Jvm.Cond.code ({ cls := "java/lang/Math", name := "min", desc := "(JJ)J" } : Jvm.MethodName) prog_21_method_70_code (4 : Nat) (Option.some Jvm.ClassFile.FieldType.long)) ∈ tblG := rn_3 (List.mem_of_getElem? (i := 160) rfl) rfl
theorem wd_641 : (Jvm.Cond.constantLong "StrataBase$Tokens" (70 : Nat) (-2147483648 : Int64)) ∈ tblG := rn_3 (List.mem_of_getElem? (i := 161) rfl) rfl
theorem wd_642 : (Jvm.Cond.constantLong "StrataBase$Tokens" (72 : Nat) (2147483647 : Int64)) ∈ tblG := rn_3 (List.mem_of_getElem? (i := 162) rfl) rfl
theorem wd_643 : (Jvm.Cond.methodLink "StrataBase$Tokens" (45 : Nat) ({ cls := "StrataBase$Tokens", name := "readSign", desc := "()V" } : Jvm.MethodName)) ∈ tblG := rn_3 (List.mem_of_getElem? (i := 163) rfl) rfl
theorem wd_645 : (Jvm.Cond.instanceMethod ({ cls := "StrataBase$Tokens", name := "readSign", desc := "()V" } : Jvm.MethodName)) ∈ tblG := rn_3 (List.mem_of_getElem? (i := 165) rfl) rfl
theorem wd_646 : (Jvm.Cond.code ({ cls := "StrataBase$Tokens", name := "readSign", desc := "()V" } : Jvm.MethodName) prog_12_method_11_code (2 : Nat) (Option.none : Option Jvm.ClassFile.FieldType)) ∈ tblG := rn_3 (List.mem_of_getElem? (i := 166) rfl) rfl
theorem wd_647 : (Jvm.Cond.methodLink "StrataBase$Tokens" (74 : Nat) ({ cls := "StrataBase$Tokens", name := "takes", desc := "(I)Z" } : Jvm.MethodName)) ∈ tblG := rn_3 (List.mem_of_getElem? (i := 167) rfl) rfl
theorem wd_649 : (Jvm.Cond.instanceMethod ({ cls := "StrataBase$Tokens", name := "takes", desc := "(I)Z" } : Jvm.MethodName)) ∈ tblG := rn_3 (List.mem_of_getElem? (i := 169) rfl) rfl
theorem wd_650 : (Jvm.Cond.code ({ cls := "StrataBase$Tokens", name := "takes", desc := "(I)Z" } : Jvm.MethodName) prog_12_method_12_code (3 : Nat) (Option.some Jvm.ClassFile.FieldType.boolean)) ∈ tblG := rn_3 (List.mem_of_getElem? (i := 170) rfl) rfl
theorem wd_651 : (Jvm.Cond.methodLink "StrataBase$Reader" (71 : Nat) ({ cls := "StrataBase$Reader", name := "settleBefore", desc := "()V" } : Jvm.MethodName)) ∈ tblG := rn_3 (List.mem_of_getElem? (i := 171) rfl) rfl
theorem wd_653 : (Jvm.Cond.instanceMethod ({ cls := "StrataBase$Reader", name := "settleBefore", desc := "()V" } : Jvm.MethodName)) ∈ tblG := rn_3 (List.mem_of_getElem? (i := 173) rfl) rfl
theorem wd_654 : (Jvm.Cond.code ({ cls := "StrataBase$Reader", name := "settleBefore", desc := "()V" } : Jvm.MethodName) prog_9_method_4_code (1 : Nat) (Option.none : Option Jvm.ClassFile.FieldType)) ∈ tblG := rn_3 (List.mem_of_getElem? (i := 174) rfl) rfl
theorem wd_655 : (Jvm.Cond.methodLink "StrataBase$Reader" (120 : Nat) ({ cls := "StrataBase$Reader", name := "decideName", desc := "()V" } : Jvm.MethodName)) ∈ tblG := rn_3 (List.mem_of_getElem? (i := 175) rfl) rfl
theorem wd_657 : (Jvm.Cond.instanceMethod ({ cls := "StrataBase$Reader", name := "decideName", desc := "()V" } : Jvm.MethodName)) ∈ tblG := rn_3 (List.mem_of_getElem? (i := 177) rfl) rfl
theorem wd_658 : (Jvm.Cond.code ({ cls := "StrataBase$Reader", name := "decideName", desc := "()V" } : Jvm.MethodName) prog_9_method_18_code (1 : Nat) (Option.none : Option Jvm.ClassFile.FieldType)) ∈ tblG := rn_3 (List.mem_of_getElem? (i := 178) rfl) rfl
theorem wd_659 : (Jvm.Cond.methodLink "StrataBase$Reader" (219 : Nat) ({ cls := "StrataBase$Tokens", name := "isComparison", desc := "()Z" } : Jvm.MethodName)) ∈ tblG := rn_3 (List.mem_of_getElem? (i := 179) rfl) rfl
theorem wd_660 : (Jvm.Cond.instanceMethod ({ cls := "StrataBase$Tokens", name := "isComparison", desc := "()Z" } : Jvm.MethodName)) ∈ tblG := rn_3 (List.mem_of_getElem? (i := 180) rfl) rfl
theorem wd_661 : (Jvm.Cond.selects "StrataBase$Tokens" ({ cls := "StrataBase$Tokens", name := "isComparison", desc := "()Z" } : Jvm.MethodName) ({ cls := "StrataBase$Tokens", name := "isComparison", desc := "()Z" } : Jvm.MethodName)) ∈ tblG := rn_3 (List.mem_of_getElem? (i := 181) rfl) rfl
theorem wd_662 : (Jvm.Cond.code ({ cls := "StrataBase$Tokens", name := "isComparison", desc := "()Z" } : Jvm.MethodName) prog_12_method_4_code (1 : Nat) (Option.some Jvm.ClassFile.FieldType.boolean)) ∈ tblG := rn_3 (List.mem_of_getElem? (i := 182) rfl) rfl
theorem wd_663 : (Jvm.Cond.methodLink "StrataBase$Reader" (213 : Nat) ({ cls := "StrataBase$Reader", name := "openComparison", desc := "(I)V" } : Jvm.MethodName)) ∈ tblG := rn_3 (List.mem_of_getElem? (i := 183) rfl) rfl
theorem wd_665 : (Jvm.Cond.instanceMethod ({ cls := "StrataBase$Reader", name := "openComparison", desc := "(I)V" } : Jvm.MethodName)) ∈ tblG := rn_3 (List.mem_of_getElem? (i := 185) rfl) rfl
theorem wd_666 : (Jvm.Cond.code ({ cls := "StrataBase$Reader", name := "openComparison", desc := "(I)V" } : Jvm.MethodName) prog_9_method_19_code (2 : Nat) (Option.none : Option Jvm.ClassFile.FieldType)) ∈ tblG := rn_3 (List.mem_of_getElem? (i := 186) rfl) rfl
theorem wd_667 : (Jvm.Cond.methodLink "StrataBase$Reader" (226 : Nat) ({ cls := "StrataBase$Constants", name := "clear", desc := "()V" } : Jvm.MethodName)) ∈ tblG := rn_3 (List.mem_of_getElem? (i := 187) rfl) rfl
theorem wd_668 : (Jvm.Cond.methodLink "StrataBase$Reader" (222 : Nat) ({ cls := "StrataBase$Reader", name := "addSideConstant", desc := "(IIII)V" } : Jvm.MethodName)) ∈ tblG := rn_3 (List.mem_of_getElem? (i := 188) rfl) rfl
theorem wd_670 : (Jvm.Cond.instanceMethod ({ cls := "StrataBase$Reader", name := "addSideConstant", desc := "(IIII)V" } : Jvm.MethodName)) ∈ tblG := rn_3 (List.mem_of_getElem? (i := 190) rfl) rfl
theorem wd_671 : (Jvm.Cond.code ({ cls := "StrataBase$Reader", name := "addSideConstant", desc := "(IIII)V" } : Jvm.MethodName) prog_9_method_28_code (7 : Nat) (Option.none : Option Jvm.ClassFile.FieldType)) ∈ tblG := rn_3 (List.mem_of_getElem? (i := 191) rfl) rfl
theorem wd_672 : (Jvm.Cond.methodLink "StrataBase$Reader" (263 : Nat) ({ cls := "StrataBase$Constants", name := "intern", desc := "([BIII)I" } : Jvm.MethodName)) ∈ tblG := rn_3 (List.mem_of_getElem? (i := 192) rfl) rfl
theorem wd_673 : (Jvm.Cond.instanceMethod ({ cls := "StrataBase$Constants", name := "intern", desc := "([BIII)I" } : Jvm.MethodName)) ∈ tblG := rn_3 (List.mem_of_getElem? (i := 193) rfl) rfl
theorem wd_674 : (Jvm.Cond.selects "StrataBase$Constants" ({ cls := "StrataBase$Constants", name := "intern", desc := "([BIII)I" } : Jvm.MethodName) ({ cls := "StrataBase$Constants", name := "intern", desc := "([BIII)I" } : Jvm.MethodName)) ∈ tblG := rn_3 (List.mem_of_getElem? (i := 194) rfl) rfl
theorem wd_675 : (Jvm.Cond.code ({ cls := "StrataBase$Constants", name := "intern", desc := "([BIII)I" } : Jvm.MethodName) prog_3_method_5_code (7 : Nat) (Option.some Jvm.ClassFile.FieldType.int)) ∈ tblG := rn_3 (List.mem_of_getElem? (i := 195) rfl) rfl
theorem wd_676 : (Jvm.Cond.methodLink "StrataBase$Constants" (46 : Nat) ({ cls := "StrataBase$Constants", name := "search", desc := "([BIII)I" } : Jvm.MethodName)) ∈ tblG := rn_3 (List.mem_of_getElem? (i := 196) rfl) rfl
theorem wd_677 : (Jvm.Cond.instanceMethod ({ cls := "StrataBase$Constants", name := "search", desc := "([BIII)I" } : Jvm.MethodName)) ∈ tblG := rn_3 (List.mem_of_getElem? (i := 197) rfl) rfl
theorem wd_678 : (Jvm.Cond.selects "StrataBase$Constants" ({ cls := "StrataBase$Constants", name := "search", desc := "([BIII)I" } : Jvm.MethodName) ({ cls := "StrataBase$Constants", name := "search", desc := "([BIII)I" } : Jvm.MethodName)) ∈ tblG := rn_3 (List.mem_of_getElem? (i := 198) rfl) rfl
theorem wd_679 : (Jvm.Cond.code ({ cls := "StrataBase$Constants", name := "search", desc := "([BIII)I" } : Jvm.MethodName) prog_3_method_4_code (9 : Nat) (Option.some Jvm.ClassFile.FieldType.int)) ∈ tblG := rn_3 (List.mem_of_getElem? (i := 199) rfl) rfl
theorem wd_680 : (Jvm.Cond.methodLink "StrataBase$Constants" (37 : Nat) ({ cls := "StrataBase$Names", name := "compare", desc := "(I[BII)I" } : Jvm.MethodName)) ∈ tblG := rn_3 (List.mem_of_getElem? (i := 200) rfl) rfl
theorem wd_681 : (Jvm.Cond.instanceMethod ({ cls := "StrataBase$Names", name := "compare", desc := "(I[BII)I" } : Jvm.MethodName)) ∈ tblG := rn_3 (List.mem_of_getElem? (i := 201) rfl) rfl
theorem wd_682 : (Jvm.Cond.selects "StrataBase$Names" ({ cls := "StrataBase$Names", name := "compare", desc := "(I[BII)I" } : Jvm.MethodName) ({ cls := "StrataBase$Names", name := "compare", desc := "(I[BII)I" } : Jvm.MethodName)) ∈ tblG := rn_3 (List.mem_of_getElem? (i := 202) rfl) rfl
theorem wd_683 : (Jvm.Cond.code ({ cls := "StrataBase$Names", name := "compare", desc := "(I[BII)I" } : Jvm.MethodName) prog_7_method_7_code (8 : Nat) (Option.some Jvm.ClassFile.FieldType.int)) ∈ tblG := rn_3 (List.mem_of_getElem? (i := 203) rfl) rfl
theorem wd_684 : (Jvm.Cond.methodLink "StrataBase$Constants" (41 : Nat) ({ cls := "java/lang/Integer", name := "compare", desc := "(II)I" } : Jvm.MethodName)) ∈ tblG := rn_3 (List.mem_of_getElem? (i := 204) rfl) rfl
theorem wd_685 : (Jvm.Cond.static ({ cls := "java/lang/Integer", name := "compare", desc := "(II)I" } : Jvm.MethodName)) ∈ tblG := rn_3 (List.mem_of_getElem? (i := 205) rfl) rfl
theorem wd_686 : (Jvm.Cond.code ({ cls := "java/lang/Integer", name := "compare", desc := "(II)I" } : Jvm.MethodName) prog_20_method_40_code (2 : Nat) (Option.some Jvm.ClassFile.FieldType.int)) ∈ tblG := rn_3 (List.mem_of_getElem? (i := 206) rfl) rfl
theorem wd_687 : (Jvm.Cond.methodLink "StrataBase$Constants" (50 : Nat) ({ cls := "StrataBase$Names", name := "add", desc := "([BII)I" } : Jvm.MethodName)) ∈ tblG := rn_3 (List.mem_of_getElem? (i := 207) rfl) rfl
theorem wd_688 : (Jvm.Cond.instanceMethod ({ cls := "StrataBase$Names", name := "add", desc := "([BII)I" } : Jvm.MethodName)) ∈ tblG := rn_3 (List.mem_of_getElem? (i := 208) rfl) rfl
theorem wd_689 : (Jvm.Cond.selects "StrataBase$Names" ({ cls := "StrataBase$Names", name := "add", desc := "([BII)I" } : Jvm.MethodName) ({ cls := "StrataBase$Names", name := "add", desc := "([BII)I" } : Jvm.MethodName)) ∈ tblG := rn_3 (List.mem_of_getElem? (i := 209) rfl) rfl
theorem wd_690 : (Jvm.Cond.code ({ cls := "StrataBase$Names", name := "add", desc := "([BII)I" } : Jvm.MethodName) prog_7_method_4_code (4 : Nat) (Option.some Jvm.ClassFile.FieldType.int)) ∈ tblG := rn_3 (List.mem_of_getElem? (i := 210) rfl) rfl
theorem wd_691 : (Jvm.Cond.methodLink "StrataBase$Names" (33 : Nat) ({ cls := "java/lang/Math", name := "max", desc := "(II)I" } : Jvm.MethodName)) ∈ tblG := rn_3 (List.mem_of_getElem? (i := 211) rfl) rfl
theorem wd_692 : (Jvm.Cond.static ({ cls := "java/lang/Math", name := "max", desc := "(II)I" } : Jvm.MethodName)) ∈ tblG := rn_3 (List.mem_of_getElem? (i := 212) rfl) rfl
theorem wd_693 : (Jvm.Cond.code ({ cls := "java/lang/Math", name := "max", desc := "(II)I" } : Jvm.MethodName) prog_21_method_65_code (2 : Nat) (Option.some Jvm.ClassFile.FieldType.int)) ∈ tblG := rn_3 (List.mem_of_getElem? (i := 213) rfl) rfl
theorem wd_694 : (Jvm.Cond.methodLink "StrataBase$Names" (39 : Nat) ({ cls := "java/util/Arrays", name := "copyOf", desc := "([BI)[B" } : Jvm.MethodName)) ∈ tblG := rn_3 (List.mem_of_getElem? (i := 214) rfl) rfl
theorem wd_695 : (Jvm.Cond.static ({ cls := "java/util/Arrays", name := "copyOf", desc := "([BI)[B" } : Jvm.MethodName)) ∈ tblG := rn_3 (List.mem_of_getElem? (i := 215) rfl) rfl
theorem wd_696 : (Jvm.Cond.code ({ cls := "java/util/Arrays", name := "copyOf", desc := "([BI)[B" } : Jvm.MethodName) prog_26_method_121_code (3 : Nat) (Option.some (Jvm.ClassFile.FieldType.array Jvm.ClassFile.FieldType.byte))) ∈ tblG := rn_3 (List.mem_of_getElem? (i := 216) rfl) rfl
theorem wd_697 : (Jvm.Cond.methodLink "java/util/Arrays" (310 : Nat) ({ cls := "[B", name := "clone", desc := "()Ljava/lang/Object;" } : Jvm.MethodName)) ∈ tblG := rn_3 (List.mem_of_getElem? (i := 217) rfl) rfl
theorem wd_699 : (Jvm.Cond.native ({ cls := "java/lang/Object", name := "clone", desc := "()Ljava/lang/Object;" } : Jvm.MethodName)) ∈ tblG := rn_3 (List.mem_of_getElem? (i := 219) rfl) rfl
theorem wd_700 : (Jvm.Cond.instanceMethod ({ cls := "java/lang/Object", name := "clone", desc := "()Ljava/lang/Object;" } : Jvm.MethodName)) ∈ tblG := rn_3 (List.mem_of_getElem? (i := 220) rfl) rfl
theorem wd_701 : (Jvm.Cond.selects "[B" ({ cls := "[B", name := "clone", desc := "()Ljava/lang/Object;" } : Jvm.MethodName) ({ cls := "java/lang/Object", name := "clone", desc := "()Ljava/lang/Object;" } : Jvm.MethodName)) ∈ tblG := rn_3 (List.mem_of_getElem? (i := 221) rfl) rfl
theorem wd_703 : (Jvm.Cond.classLink "java/util/Arrays" (311 : Nat) "[B") ∈ tblG := rn_3 (List.mem_of_getElem? (i := 223) rfl) rfl
theorem wd_704 : (Jvm.Cond.methodLink "java/util/Arrays" (304 : Nat) ({ cls := "java/lang/Math", name := "min", desc := "(II)I" } : Jvm.MethodName)) ∈ tblG := rn_3 (List.mem_of_getElem? (i := 224) rfl) rfl
theorem wd_705 : (Jvm.Cond.static ({ cls := "java/lang/Math", name := "min", desc := "(II)I" } : Jvm.MethodName)) ∈ tblG := rn_3 (List.mem_of_getElem? (i := 225) rfl) rfl
theorem wd_706 : (Jvm.Cond.code ({ cls := "java/lang/Math", name := "min", desc := "(II)I" } : Jvm.MethodName) prog_21_method_69_code (2 : Nat) (Option.some Jvm.ClassFile.FieldType.int)) ∈ tblG := rn_3 (List.mem_of_getElem? (i := 226) rfl) rfl
theorem wd_707 : (Jvm.Cond.methodLink "java/util/Arrays" (150 : Nat) ({ cls := "java/lang/System", name := "arraycopy", desc := "(Ljava/lang/Object;ILjava/lang/Object;II)V" } : Jvm.MethodName)) ∈ tblG := rn_3 (List.mem_of_getElem? (i := 227) rfl) rfl
theorem wd_708 : (Jvm.Cond.static ({ cls := "java/lang/System", name := "arraycopy", desc := "(Ljava/lang/Object;ILjava/lang/Object;II)V" } : Jvm.MethodName)) ∈ tblG := rn_3 (List.mem_of_getElem? (i := 228) rfl) rfl
theorem wd_709 : (Jvm.Cond.native ({ cls := "java/lang/System", name := "arraycopy", desc := "(Ljava/lang/Object;ILjava/lang/Object;II)V" } : Jvm.MethodName)) ∈ tblG := rn_3 (List.mem_of_getElem? (i := 229) rfl) rfl
theorem wd_710 : (Jvm.Cond.methodLink "StrataBase$Names" (45 : Nat) ({ cls := "java/lang/System", name := "arraycopy", desc := "(Ljava/lang/Object;ILjava/lang/Object;II)V" } : Jvm.MethodName)) ∈ tblG := rn_3 (List.mem_of_getElem? (i := 230) rfl) rfl
theorem wd_711 : (Jvm.Cond.methodLink "StrataBase$Constants" (54 : Nat) ({ cls := "java/lang/System", name := "arraycopy", desc := "(Ljava/lang/Object;ILjava/lang/Object;II)V" } : Jvm.MethodName)) ∈ tblG := rn_3 (List.mem_of_getElem? (i := 231) rfl) rfl
theorem wd_712 : (Jvm.Cond.methodLink "StrataBase$Reader" (267 : Nat) ({ cls := "StrataBase$Constants", name := "search", desc := "([BIII)I" } : Jvm.MethodName)) ∈ tblG := rn_3 (List.mem_of_getElem? (i := 232) rfl) rfl
theorem wd_713 : (Jvm.Cond.methodLink "StrataBase$Reader" (245 : Nat) ({ cls := "StrataBase$Clauses", name := "codeOfRank", desc := "(I)I" } : Jvm.MethodName)) ∈ tblG := rn_3 (List.mem_of_getElem? (i := 233) rfl) rfl
theorem wd_714 : (Jvm.Cond.static ({ cls := "StrataBase$Clauses", name := "codeOfRank", desc := "(I)I" } : Jvm.MethodName)) ∈ tblG := rn_3 (List.mem_of_getElem? (i := 234) rfl) rfl
theorem wd_715 : (Jvm.Cond.code ({ cls := "StrataBase$Clauses", name := "codeOfRank", desc := "(I)I" } : Jvm.MethodName) prog_2_method_12_code (1 : Nat) (Option.some Jvm.ClassFile.FieldType.int)) ∈ tblG := rn_3 (List.mem_of_getElem? (i := 235) rfl) rfl
theorem wd_716 : (Jvm.Cond.methodLink "StrataBase$Reader" (276 : Nat) ({ cls := "StrataBase$Reader", name := "addConstant", desc := "(III)V" } : Jvm.MethodName)) ∈ tblG := rn_3 (List.mem_of_getElem? (i := 236) rfl) rfl
theorem wd_718 : (Jvm.Cond.instanceMethod ({ cls := "StrataBase$Reader", name := "addConstant", desc := "(III)V" } : Jvm.MethodName)) ∈ tblG := rn_3 (List.mem_of_getElem? (i := 238) rfl) rfl
theorem wd_719 : (Jvm.Cond.code ({ cls := "StrataBase$Reader", name := "addConstant", desc := "(III)V" } : Jvm.MethodName) prog_9_method_29_code (4 : Nat) (Option.none : Option Jvm.ClassFile.FieldType)) ∈ tblG := rn_3 (List.mem_of_getElem? (i := 239) rfl) rfl
theorem wd_720 : (Jvm.Cond.methodLink "StrataBase$Reader" (132 : Nat) ({ cls := "StrataBase$Reader", name := "stop", desc := "(II)V" } : Jvm.MethodName)) ∈ tblG := rn_4 (List.mem_of_getElem? (i := 0) rfl) rfl
theorem wd_722 : (Jvm.Cond.instanceMethod ({ cls := "StrataBase$Reader", name := "stop", desc := "(II)V" } : Jvm.MethodName)) ∈ tblG := rn_4 (List.mem_of_getElem? (i := 2) rfl) rfl
theorem wd_723 : (Jvm.Cond.code ({ cls := "StrataBase$Reader", name := "stop", desc := "(II)V" } : Jvm.MethodName) prog_9_method_6_code (3 : Nat) (Option.none : Option Jvm.ClassFile.FieldType)) ∈ tblG := rn_4 (List.mem_of_getElem? (i := 3) rfl) rfl
theorem wd_724 : (Jvm.Cond.methodLink "StrataBase$Reader" (258 : Nat) ({ cls := "StrataBase$Clauses", name := "add", desc := "(I)V" } : Jvm.MethodName)) ∈ tblG := rn_4 (List.mem_of_getElem? (i := 4) rfl) rfl
theorem wd_725 : (Jvm.Cond.instanceMethod ({ cls := "StrataBase$Clauses", name := "add", desc := "(I)V" } : Jvm.MethodName)) ∈ tblG := rn_4 (List.mem_of_getElem? (i := 5) rfl) rfl
theorem wd_726 : (Jvm.Cond.selects "StrataBase$Clauses" ({ cls := "StrataBase$Clauses", name := "add", desc := "(I)V" } : Jvm.MethodName) ({ cls := "StrataBase$Clauses", name := "add", desc := "(I)V" } : Jvm.MethodName)) ∈ tblG := rn_4 (List.mem_of_getElem? (i := 6) rfl) rfl
theorem wd_727 : (Jvm.Cond.code ({ cls := "StrataBase$Clauses", name := "add", desc := "(I)V" } : Jvm.MethodName) prog_2_method_6_code (3 : Nat) (Option.none : Option Jvm.ClassFile.FieldType)) ∈ tblG := rn_4 (List.mem_of_getElem? (i := 7) rfl) rfl
theorem wd_728 : (Jvm.Cond.methodLink "StrataBase$Clauses" (40 : Nat) ({ cls := "StrataBase$Clauses", name := "setTerm", desc := "(III)V" } : Jvm.MethodName)) ∈ tblG := rn_4 (List.mem_of_getElem? (i := 8) rfl) rfl
theorem wd_729 : (Jvm.Cond.instanceMethod ({ cls := "StrataBase$Clauses", name := "setTerm", desc := "(III)V" } : Jvm.MethodName)) ∈ tblG := rn_4 (List.mem_of_getElem? (i := 9) rfl) rfl
theorem wd_730 : (Jvm.Cond.selects "StrataBase$Clauses" ({ cls := "StrataBase$Clauses", name := "setTerm", desc := "(III)V" } : Jvm.MethodName) ({ cls := "StrataBase$Clauses", name := "setTerm", desc := "(III)V" } : Jvm.MethodName)) ∈ tblG := rn_4 (List.mem_of_getElem? (i := 10) rfl) rfl
theorem wd_731 : (Jvm.Cond.code ({ cls := "StrataBase$Clauses", name := "setTerm", desc := "(III)V" } : Jvm.MethodName) prog_2_method_8_code (4 : Nat) (Option.none : Option Jvm.ClassFile.FieldType)) ∈ tblG := rn_4 (List.mem_of_getElem? (i := 11) rfl) rfl
theorem wd_732 : (Jvm.Cond.methodLink "StrataBase$Reader" (164 : Nat) ({ cls := "StrataBase$Reader", name := "namePredicate", desc := "()V" } : Jvm.MethodName)) ∈ tblG := rn_4 (List.mem_of_getElem? (i := 12) rfl) rfl
theorem wd_734 : (Jvm.Cond.instanceMethod ({ cls := "StrataBase$Reader", name := "namePredicate", desc := "()V" } : Jvm.MethodName)) ∈ tblG := rn_4 (List.mem_of_getElem? (i := 14) rfl) rfl
theorem wd_735 : (Jvm.Cond.code ({ cls := "StrataBase$Reader", name := "namePredicate", desc := "()V" } : Jvm.MethodName) prog_9_method_13_code (3 : Nat) (Option.none : Option Jvm.ClassFile.FieldType)) ∈ tblG := rn_4 (List.mem_of_getElem? (i := 15) rfl) rfl
theorem wd_736 : (Jvm.Cond.methodLink "StrataBase$Reader" (182 : Nat) ({ cls := "StrataBase$Names", name := "find", desc := "([BII)I" } : Jvm.MethodName)) ∈ tblG := rn_4 (List.mem_of_getElem? (i := 16) rfl) rfl
theorem wd_737 : (Jvm.Cond.instanceMethod ({ cls := "StrataBase$Names", name := "find", desc := "([BII)I" } : Jvm.MethodName)) ∈ tblG := rn_4 (List.mem_of_getElem? (i := 17) rfl) rfl
theorem wd_738 : (Jvm.Cond.selects "StrataBase$Names" ({ cls := "StrataBase$Names", name := "find", desc := "([BII)I" } : Jvm.MethodName) ({ cls := "StrataBase$Names", name := "find", desc := "([BII)I" } : Jvm.MethodName)) ∈ tblG := rn_4 (List.mem_of_getElem? (i := 18) rfl) rfl
theorem wd_739 : (Jvm.Cond.code ({ cls := "StrataBase$Names", name := "find", desc := "([BII)I" } : Jvm.MethodName) prog_7_method_3_code (5 : Nat) (Option.some Jvm.ClassFile.FieldType.int)) ∈ tblG := rn_4 (List.mem_of_getElem? (i := 19) rfl) rfl
theorem wd_740 : (Jvm.Cond.methodLink "StrataBase$Names" (29 : Nat) ({ cls := "StrataBase$Names", name := "compare", desc := "(I[BII)I" } : Jvm.MethodName)) ∈ tblG := rn_4 (List.mem_of_getElem? (i := 20) rfl) rfl
theorem wd_741 : (Jvm.Cond.methodLink "StrataBase$Reader" (186 : Nat) ({ cls := "StrataBase$Names", name := "add", desc := "([BII)I" } : Jvm.MethodName)) ∈ tblG := rn_4 (List.mem_of_getElem? (i := 21) rfl) rfl
theorem wd_742 : (Jvm.Cond.methodLink "StrataBase$Reader" (191 : Nat) ({ cls := "StrataBase$Clauses", name := "newest", desc := "()I" } : Jvm.MethodName)) ∈ tblG := rn_4 (List.mem_of_getElem? (i := 22) rfl) rfl
theorem wd_743 : (Jvm.Cond.instanceMethod ({ cls := "StrataBase$Clauses", name := "newest", desc := "()I" } : Jvm.MethodName)) ∈ tblG := rn_4 (List.mem_of_getElem? (i := 23) rfl) rfl
theorem wd_744 : (Jvm.Cond.selects "StrataBase$Clauses" ({ cls := "StrataBase$Clauses", name := "newest", desc := "()I" } : Jvm.MethodName) ({ cls := "StrataBase$Clauses", name := "newest", desc := "()I" } : Jvm.MethodName)) ∈ tblG := rn_4 (List.mem_of_getElem? (i := 24) rfl) rfl
theorem wd_745 : (Jvm.Cond.code ({ cls := "StrataBase$Clauses", name := "newest", desc := "()I" } : Jvm.MethodName) prog_2_method_5_code (1 : Nat) (Option.some Jvm.ClassFile.FieldType.int)) ∈ tblG := rn_4 (List.mem_of_getElem? (i := 25) rfl) rfl
theorem wd_746 : (Jvm.Cond.methodLink "StrataBase$Reader" (126 : Nat) ({ cls := "StrataBase$Reader", name := "closeAtom", desc := "()V" } : Jvm.MethodName)) ∈ tblG := rn_4 (List.mem_of_getElem? (i := 26) rfl) rfl
theorem wd_748 : (Jvm.Cond.instanceMethod ({ cls := "StrataBase$Reader", name := "closeAtom", desc := "()V" } : Jvm.MethodName)) ∈ tblG := rn_4 (List.mem_of_getElem? (i := 28) rfl) rfl
theorem wd_749 : (Jvm.Cond.code ({ cls := "StrataBase$Reader", name := "closeAtom", desc := "()V" } : Jvm.MethodName) prog_9_method_30_code (2 : Nat) (Option.none : Option Jvm.ClassFile.FieldType)) ∈ tblG := rn_4 (List.mem_of_getElem? (i := 29) rfl) rfl
theorem wd_750 : (Jvm.Cond.methodLink "StrataBase$Reader" (279 : Nat) ({ cls := "StrataBase$Reader", name := "checkSize", desc := "(I)V" } : Jvm.MethodName)) ∈ tblG := rn_4 (List.mem_of_getElem? (i := 30) rfl) rfl
theorem wd_752 : (Jvm.Cond.instanceMethod ({ cls := "StrataBase$Reader", name := "checkSize", desc := "(I)V" } : Jvm.MethodName)) ∈ tblG := rn_4 (List.mem_of_getElem? (i := 32) rfl) rfl
theorem wd_753 : (Jvm.Cond.code ({ cls := "StrataBase$Reader", name := "checkSize", desc := "(I)V" } : Jvm.MethodName) prog_9_method_31_code (4 : Nat) (Option.none : Option Jvm.ClassFile.FieldType)) ∈ tblG := rn_4 (List.mem_of_getElem? (i := 33) rfl) rfl
theorem wd_754 : (Jvm.Cond.methodLink "StrataBase$Reader" (282 : Nat) ({ cls := "StrataBase$Reader", name := "checkOwnSize", desc := "(I)V" } : Jvm.MethodName)) ∈ tblG := rn_4 (List.mem_of_getElem? (i := 34) rfl) rfl
theorem wd_756 : (Jvm.Cond.instanceMethod ({ cls := "StrataBase$Reader", name := "checkOwnSize", desc := "(I)V" } : Jvm.MethodName)) ∈ tblG := rn_4 (List.mem_of_getElem? (i := 36) rfl) rfl
theorem wd_757 : (Jvm.Cond.code ({ cls := "StrataBase$Reader", name := "checkOwnSize", desc := "(I)V" } : Jvm.MethodName) prog_9_method_32_code (4 : Nat) (Option.none : Option Jvm.ClassFile.FieldType)) ∈ tblG := rn_4 (List.mem_of_getElem? (i := 37) rfl) rfl
theorem wd_758 : (Jvm.Cond.methodLink "StrataBase$Reader" (286 : Nat) ({ cls := "StrataBase$Reader", name := "note", desc := "(II)V" } : Jvm.MethodName)) ∈ tblG := rn_4 (List.mem_of_getElem? (i := 38) rfl) rfl
theorem wd_760 : (Jvm.Cond.instanceMethod ({ cls := "StrataBase$Reader", name := "note", desc := "(II)V" } : Jvm.MethodName)) ∈ tblG := rn_4 (List.mem_of_getElem? (i := 40) rfl) rfl
theorem wd_761 : (Jvm.Cond.code ({ cls := "StrataBase$Reader", name := "note", desc := "(II)V" } : Jvm.MethodName) prog_9_method_8_code (3 : Nat) (Option.none : Option Jvm.ClassFile.FieldType)) ∈ tblG := rn_4 (List.mem_of_getElem? (i := 41) rfl) rfl
theorem wd_762 : (Jvm.Cond.methodLink "StrataBase$Reader" (74 : Nat) ({ cls := "StrataBase$Reader", name := "beginClause", desc := "()V" } : Jvm.MethodName)) ∈ tblG := rn_4 (List.mem_of_getElem? (i := 42) rfl) rfl
theorem wd_764 : (Jvm.Cond.instanceMethod ({ cls := "StrataBase$Reader", name := "beginClause", desc := "()V" } : Jvm.MethodName)) ∈ tblG := rn_4 (List.mem_of_getElem? (i := 44) rfl) rfl
theorem wd_765 : (Jvm.Cond.code ({ cls := "StrataBase$Reader", name := "beginClause", desc := "()V" } : Jvm.MethodName) prog_9_method_10_code (1 : Nat) (Option.none : Option Jvm.ClassFile.FieldType)) ∈ tblG := rn_4 (List.mem_of_getElem? (i := 45) rfl) rfl
theorem wd_766 : (Jvm.Cond.methodLink "StrataBase$Reader" (155 : Nat) ({ cls := "StrataBase$Reader", name := "refuse", desc := "()V" } : Jvm.MethodName)) ∈ tblG := rn_4 (List.mem_of_getElem? (i := 46) rfl) rfl
theorem wd_768 : (Jvm.Cond.instanceMethod ({ cls := "StrataBase$Reader", name := "refuse", desc := "()V" } : Jvm.MethodName)) ∈ tblG := rn_4 (List.mem_of_getElem? (i := 48) rfl) rfl
theorem wd_769 : (Jvm.Cond.code ({ cls := "StrataBase$Reader", name := "refuse", desc := "()V" } : Jvm.MethodName) prog_9_method_7_code (1 : Nat) (Option.none : Option Jvm.ClassFile.FieldType)) ∈ tblG := rn_4 (List.mem_of_getElem? (i := 49) rfl) rfl
theorem wd_770 : (Jvm.Cond.methodLink "StrataBase$Reader" (77 : Nat) ({ cls := "StrataBase$Reader", name := "readPredicate", desc := "()V" } : Jvm.MethodName)) ∈ tblG := rn_4 (List.mem_of_getElem? (i := 50) rfl) rfl
theorem wd_772 : (Jvm.Cond.instanceMethod ({ cls := "StrataBase$Reader", name := "readPredicate", desc := "()V" } : Jvm.MethodName)) ∈ tblG := rn_4 (List.mem_of_getElem? (i := 52) rfl) rfl
theorem wd_773 : (Jvm.Cond.code ({ cls := "StrataBase$Reader", name := "readPredicate", desc := "()V" } : Jvm.MethodName) prog_9_method_11_code (1 : Nat) (Option.none : Option Jvm.ClassFile.FieldType)) ∈ tblG := rn_4 (List.mem_of_getElem? (i := 53) rfl) rfl
theorem wd_774 : (Jvm.Cond.methodLink "StrataBase$Reader" (161 : Nat) ({ cls := "StrataBase$Reader", name := "markName", desc := "()V" } : Jvm.MethodName)) ∈ tblG := rn_4 (List.mem_of_getElem? (i := 54) rfl) rfl
theorem wd_776 : (Jvm.Cond.instanceMethod ({ cls := "StrataBase$Reader", name := "markName", desc := "()V" } : Jvm.MethodName)) ∈ tblG := rn_4 (List.mem_of_getElem? (i := 56) rfl) rfl
theorem wd_777 : (Jvm.Cond.code ({ cls := "StrataBase$Reader", name := "markName", desc := "()V" } : Jvm.MethodName) prog_9_method_12_code (1 : Nat) (Option.none : Option Jvm.ClassFile.FieldType)) ∈ tblG := rn_4 (List.mem_of_getElem? (i := 57) rfl) rfl
theorem wd_778 : (Jvm.Cond.methodLink "StrataBase$Reader" (80 : Nat) ({ cls := "StrataBase$Reader", name := "readTerm", desc := "()V" } : Jvm.MethodName)) ∈ tblG := rn_4 (List.mem_of_getElem? (i := 58) rfl) rfl
theorem wd_780 : (Jvm.Cond.instanceMethod ({ cls := "StrataBase$Reader", name := "readTerm", desc := "()V" } : Jvm.MethodName)) ∈ tblG := rn_4 (List.mem_of_getElem? (i := 60) rfl) rfl
theorem wd_781 : (Jvm.Cond.code ({ cls := "StrataBase$Reader", name := "readTerm", desc := "()V" } : Jvm.MethodName) prog_9_method_14_code (2 : Nat) (Option.none : Option Jvm.ClassFile.FieldType)) ∈ tblG := rn_4 (List.mem_of_getElem? (i := 61) rfl) rfl
theorem wd_782 : (Jvm.Cond.methodLink "StrataBase$Reader" (197 : Nat) ({ cls := "StrataBase$Tokens", name := "isConstant", desc := "()Z" } : Jvm.MethodName)) ∈ tblG := rn_4 (List.mem_of_getElem? (i := 62) rfl) rfl
theorem wd_783 : (Jvm.Cond.instanceMethod ({ cls := "StrataBase$Tokens", name := "isConstant", desc := "()Z" } : Jvm.MethodName)) ∈ tblG := rn_4 (List.mem_of_getElem? (i := 63) rfl) rfl
theorem wd_784 : (Jvm.Cond.selects "StrataBase$Tokens" ({ cls := "StrataBase$Tokens", name := "isConstant", desc := "()Z" } : Jvm.MethodName) ({ cls := "StrataBase$Tokens", name := "isConstant", desc := "()Z" } : Jvm.MethodName)) ∈ tblG := rn_4 (List.mem_of_getElem? (i := 64) rfl) rfl
theorem wd_785 : (Jvm.Cond.code ({ cls := "StrataBase$Tokens", name := "isConstant", desc := "()Z" } : Jvm.MethodName) prog_12_method_5_code (1 : Nat) (Option.some Jvm.ClassFile.FieldType.boolean)) ∈ tblG := rn_4 (List.mem_of_getElem? (i := 65) rfl) rfl
theorem wd_786 : (Jvm.Cond.methodLink "StrataBase$Reader" (204 : Nat) ({ cls := "StrataBase$Reader", name := "addVariable", desc := "(I)V" } : Jvm.MethodName)) ∈ tblG := rn_4 (List.mem_of_getElem? (i := 66) rfl) rfl
theorem wd_788 : (Jvm.Cond.instanceMethod ({ cls := "StrataBase$Reader", name := "addVariable", desc := "(I)V" } : Jvm.MethodName)) ∈ tblG := rn_4 (List.mem_of_getElem? (i := 68) rfl) rfl
theorem wd_789 : (Jvm.Cond.code ({ cls := "StrataBase$Reader", name := "addVariable", desc := "(I)V" } : Jvm.MethodName) prog_9_method_26_code (5 : Nat) (Option.none : Option Jvm.ClassFile.FieldType)) ∈ tblG := rn_4 (List.mem_of_getElem? (i := 69) rfl) rfl
theorem wd_790 : (Jvm.Cond.methodLink "StrataBase$Reader" (207 : Nat) ({ cls := "StrataBase$Reader", name := "addAtomConstant", desc := "()V" } : Jvm.MethodName)) ∈ tblG := rn_4 (List.mem_of_getElem? (i := 70) rfl) rfl
theorem wd_792 : (Jvm.Cond.instanceMethod ({ cls := "StrataBase$Reader", name := "addAtomConstant", desc := "()V" } : Jvm.MethodName)) ∈ tblG := rn_4 (List.mem_of_getElem? (i := 72) rfl) rfl
theorem wd_793 : (Jvm.Cond.code ({ cls := "StrataBase$Reader", name := "addAtomConstant", desc := "()V" } : Jvm.MethodName) prog_9_method_27_code (3 : Nat) (Option.none : Option Jvm.ClassFile.FieldType)) ∈ tblG := rn_4 (List.mem_of_getElem? (i := 73) rfl) rfl
theorem wd_794 : (Jvm.Cond.methodLink "StrataBase$Reader" (252 : Nat) ({ cls := "StrataBase$Tokens", name := "nameLength", desc := "()I" } : Jvm.MethodName)) ∈ tblG := rn_4 (List.mem_of_getElem? (i := 74) rfl) rfl
theorem wd_795 : (Jvm.Cond.instanceMethod ({ cls := "StrataBase$Tokens", name := "nameLength", desc := "()I" } : Jvm.MethodName)) ∈ tblG := rn_4 (List.mem_of_getElem? (i := 75) rfl) rfl
theorem wd_796 : (Jvm.Cond.selects "StrataBase$Tokens" ({ cls := "StrataBase$Tokens", name := "nameLength", desc := "()I" } : Jvm.MethodName) ({ cls := "StrataBase$Tokens", name := "nameLength", desc := "()I" } : Jvm.MethodName)) ∈ tblG := rn_4 (List.mem_of_getElem? (i := 76) rfl) rfl
theorem wd_797 : (Jvm.Cond.code ({ cls := "StrataBase$Tokens", name := "nameLength", desc := "()I" } : Jvm.MethodName) prog_12_method_6_code (1 : Nat) (Option.some Jvm.ClassFile.FieldType.int)) ∈ tblG := rn_4 (List.mem_of_getElem? (i := 77) rfl) rfl
theorem wd_798 : (Jvm.Cond.methodLink "StrataBase$Reader" (270 : Nat) ({ cls := "java/lang/Math", name := "max", desc := "(II)I" } : Jvm.MethodName)) ∈ tblG := rn_4 (List.mem_of_getElem? (i := 78) rfl) rfl
theorem wd_799 : (Jvm.Cond.methodLink "StrataBase$Reader" (83 : Nat) ({ cls := "StrataBase$Reader", name := "readTermEnd", desc := "()V" } : Jvm.MethodName)) ∈ tblG := rn_4 (List.mem_of_getElem? (i := 79) rfl) rfl
theorem wd_801 : (Jvm.Cond.instanceMethod ({ cls := "StrataBase$Reader", name := "readTermEnd", desc := "()V" } : Jvm.MethodName)) ∈ tblG := rn_4 (List.mem_of_getElem? (i := 81) rfl) rfl
theorem wd_802 : (Jvm.Cond.code ({ cls := "StrataBase$Reader", name := "readTermEnd", desc := "()V" } : Jvm.MethodName) prog_9_method_15_code (1 : Nat) (Option.none : Option Jvm.ClassFile.FieldType)) ∈ tblG := rn_4 (List.mem_of_getElem? (i := 82) rfl) rfl
theorem wd_803 : (Jvm.Cond.methodLink "StrataBase$Reader" (86 : Nat) ({ cls := "StrataBase$Reader", name := "readHeadEnd", desc := "()V" } : Jvm.MethodName)) ∈ tblG := rn_4 (List.mem_of_getElem? (i := 83) rfl) rfl
theorem wd_805 : (Jvm.Cond.instanceMethod ({ cls := "StrataBase$Reader", name := "readHeadEnd", desc := "()V" } : Jvm.MethodName)) ∈ tblG := rn_4 (List.mem_of_getElem? (i := 85) rfl) rfl
theorem wd_806 : (Jvm.Cond.code ({ cls := "StrataBase$Reader", name := "readHeadEnd", desc := "()V" } : Jvm.MethodName) prog_9_method_16_code (1 : Nat) (Option.none : Option Jvm.ClassFile.FieldType)) ∈ tblG := rn_4 (List.mem_of_getElem? (i := 86) rfl) rfl
theorem wd_807 : (Jvm.Cond.methodLink "StrataBase$Reader" (210 : Nat) ({ cls := "StrataBase$Reader", name := "closeClause", desc := "()V" } : Jvm.MethodName)) ∈ tblG := rn_4 (List.mem_of_getElem? (i := 87) rfl) rfl
theorem wd_809 : (Jvm.Cond.instanceMethod ({ cls := "StrataBase$Reader", name := "closeClause", desc := "()V" } : Jvm.MethodName)) ∈ tblG := rn_4 (List.mem_of_getElem? (i := 89) rfl) rfl
theorem wd_810 : (Jvm.Cond.code ({ cls := "StrataBase$Reader", name := "closeClause", desc := "()V" } : Jvm.MethodName) prog_9_method_33_code (2 : Nat) (Option.none : Option Jvm.ClassFile.FieldType)) ∈ tblG := rn_4 (List.mem_of_getElem? (i := 90) rfl) rfl
theorem wd_811 : (Jvm.Cond.methodLink "StrataBase$Reader" (290 : Nat) ({ cls := "StrataBase$Clauses", name := "close", desc := "()V" } : Jvm.MethodName)) ∈ tblG := rn_4 (List.mem_of_getElem? (i := 91) rfl) rfl
theorem wd_812 : (Jvm.Cond.instanceMethod ({ cls := "StrataBase$Clauses", name := "close", desc := "()V" } : Jvm.MethodName)) ∈ tblG := rn_4 (List.mem_of_getElem? (i := 92) rfl) rfl
theorem wd_813 : (Jvm.Cond.selects "StrataBase$Clauses" ({ cls := "StrataBase$Clauses", name := "close", desc := "()V" } : Jvm.MethodName) ({ cls := "StrataBase$Clauses", name := "close", desc := "()V" } : Jvm.MethodName)) ∈ tblG := rn_4 (List.mem_of_getElem? (i := 93) rfl) rfl
theorem wd_814 : (Jvm.Cond.code ({ cls := "StrataBase$Clauses", name := "close", desc := "()V" } : Jvm.MethodName) prog_2_method_3_code (1 : Nat) (Option.none : Option Jvm.ClassFile.FieldType)) ∈ tblG := rn_4 (List.mem_of_getElem? (i := 94) rfl) rfl
theorem wd_815 : (Jvm.Cond.methodLink "StrataBase$Reader" (89 : Nat) ({ cls := "StrataBase$Reader", name := "beginLiteral", desc := "()V" } : Jvm.MethodName)) ∈ tblG := rn_4 (List.mem_of_getElem? (i := 95) rfl) rfl
theorem wd_817 : (Jvm.Cond.instanceMethod ({ cls := "StrataBase$Reader", name := "beginLiteral", desc := "()V" } : Jvm.MethodName)) ∈ tblG := rn_4 (List.mem_of_getElem? (i := 97) rfl) rfl
theorem wd_818 : (Jvm.Cond.code ({ cls := "StrataBase$Reader", name := "beginLiteral", desc := "()V" } : Jvm.MethodName) prog_9_method_17_code (2 : Nat) (Option.none : Option Jvm.ClassFile.FieldType)) ∈ tblG := rn_4 (List.mem_of_getElem? (i := 98) rfl) rfl
theorem wd_819 : (Jvm.Cond.methodLink "StrataBase$Reader" (216 : Nat) ({ cls := "StrataBase$Reader", name := "addSide", desc := "(I)V" } : Jvm.MethodName)) ∈ tblG := rn_4 (List.mem_of_getElem? (i := 99) rfl) rfl
theorem wd_821 : (Jvm.Cond.instanceMethod ({ cls := "StrataBase$Reader", name := "addSide", desc := "(I)V" } : Jvm.MethodName)) ∈ tblG := rn_4 (List.mem_of_getElem? (i := 101) rfl) rfl
theorem wd_822 : (Jvm.Cond.code ({ cls := "StrataBase$Reader", name := "addSide", desc := "(I)V" } : Jvm.MethodName) prog_9_method_25_code (2 : Nat) (Option.none : Option Jvm.ClassFile.FieldType)) ∈ tblG := rn_4 (List.mem_of_getElem? (i := 102) rfl) rfl
theorem wd_823 : (Jvm.Cond.methodLink "StrataBase$Reader" (92 : Nat) ({ cls := "StrataBase$Reader", name := "readComparison", desc := "()V" } : Jvm.MethodName)) ∈ tblG := rn_4 (List.mem_of_getElem? (i := 103) rfl) rfl
theorem wd_825 : (Jvm.Cond.instanceMethod ({ cls := "StrataBase$Reader", name := "readComparison", desc := "()V" } : Jvm.MethodName)) ∈ tblG := rn_4 (List.mem_of_getElem? (i := 105) rfl) rfl
theorem wd_826 : (Jvm.Cond.code ({ cls := "StrataBase$Reader", name := "readComparison", desc := "()V" } : Jvm.MethodName) prog_9_method_20_code (1 : Nat) (Option.none : Option Jvm.ClassFile.FieldType)) ∈ tblG := rn_4 (List.mem_of_getElem? (i := 106) rfl) rfl
theorem wd_827 : (Jvm.Cond.methodLink "StrataBase$Reader" (95 : Nat) ({ cls := "StrataBase$Reader", name := "readRightSide", desc := "()V" } : Jvm.MethodName)) ∈ tblG := rn_4 (List.mem_of_getElem? (i := 107) rfl) rfl
theorem wd_829 : (Jvm.Cond.instanceMethod ({ cls := "StrataBase$Reader", name := "readRightSide", desc := "()V" } : Jvm.MethodName)) ∈ tblG := rn_4 (List.mem_of_getElem? (i := 109) rfl) rfl
theorem wd_830 : (Jvm.Cond.code ({ cls := "StrataBase$Reader", name := "readRightSide", desc := "()V" } : Jvm.MethodName) prog_9_method_21_code (1 : Nat) (Option.none : Option Jvm.ClassFile.FieldType)) ∈ tblG := rn_4 (List.mem_of_getElem? (i := 110) rfl) rfl
theorem wd_831 : (Jvm.Cond.methodLink "StrataBase$Reader" (233 : Nat) ({ cls := "StrataBase$Reader", name := "compareSides", desc := "()V" } : Jvm.MethodName)) ∈ tblG := rn_4 (List.mem_of_getElem? (i := 111) rfl) rfl
theorem wd_833 : (Jvm.Cond.instanceMethod ({ cls := "StrataBase$Reader", name := "compareSides", desc := "()V" } : Jvm.MethodName)) ∈ tblG := rn_4 (List.mem_of_getElem? (i := 113) rfl) rfl
theorem wd_834 : (Jvm.Cond.code ({ cls := "StrataBase$Reader", name := "compareSides", desc := "()V" } : Jvm.MethodName) prog_9_method_22_code (4 : Nat) (Option.none : Option Jvm.ClassFile.FieldType)) ∈ tblG := rn_4 (List.mem_of_getElem? (i := 114) rfl) rfl
theorem wd_835 : (Jvm.Cond.methodLink "StrataBase$Reader" (236 : Nat) ({ cls := "StrataBase$Constants", name := "setRanks", desc := "()V" } : Jvm.MethodName)) ∈ tblG := rn_4 (List.mem_of_getElem? (i := 115) rfl) rfl
theorem wd_836 : (Jvm.Cond.instanceMethod ({ cls := "StrataBase$Constants", name := "setRanks", desc := "()V" } : Jvm.MethodName)) ∈ tblG := rn_4 (List.mem_of_getElem? (i := 116) rfl) rfl
theorem wd_837 : (Jvm.Cond.selects "StrataBase$Constants" ({ cls := "StrataBase$Constants", name := "setRanks", desc := "()V" } : Jvm.MethodName) ({ cls := "StrataBase$Constants", name := "setRanks", desc := "()V" } : Jvm.MethodName)) ∈ tblG := rn_4 (List.mem_of_getElem? (i := 117) rfl) rfl
theorem wd_838 : (Jvm.Cond.code ({ cls := "StrataBase$Constants", name := "setRanks", desc := "()V" } : Jvm.MethodName) prog_3_method_6_code (2 : Nat) (Option.none : Option Jvm.ClassFile.FieldType)) ∈ tblG := rn_4 (List.mem_of_getElem? (i := 118) rfl) rfl
theorem wd_839 : (Jvm.Cond.methodLink "StrataBase$Reader" (239 : Nat) ({ cls := "StrataBase$Constants", name := "rankOf", desc := "(I)I" } : Jvm.MethodName)) ∈ tblG := rn_4 (List.mem_of_getElem? (i := 119) rfl) rfl
theorem wd_840 : (Jvm.Cond.instanceMethod ({ cls := "StrataBase$Constants", name := "rankOf", desc := "(I)I" } : Jvm.MethodName)) ∈ tblG := rn_4 (List.mem_of_getElem? (i := 120) rfl) rfl
theorem wd_841 : (Jvm.Cond.selects "StrataBase$Constants" ({ cls := "StrataBase$Constants", name := "rankOf", desc := "(I)I" } : Jvm.MethodName) ({ cls := "StrataBase$Constants", name := "rankOf", desc := "(I)I" } : Jvm.MethodName)) ∈ tblG := rn_4 (List.mem_of_getElem? (i := 121) rfl) rfl
theorem wd_842 : (Jvm.Cond.code ({ cls := "StrataBase$Constants", name := "rankOf", desc := "(I)I" } : Jvm.MethodName) prog_3_method_7_code (2 : Nat) (Option.some Jvm.ClassFile.FieldType.int)) ∈ tblG := rn_4 (List.mem_of_getElem? (i := 122) rfl) rfl
theorem wd_843 : (Jvm.Cond.methodLink "StrataBase$Reader" (243 : Nat) ({ cls := "StrataBase$Constants", name := "size", desc := "()I" } : Jvm.MethodName)) ∈ tblG := rn_4 (List.mem_of_getElem? (i := 123) rfl) rfl
theorem wd_844 : (Jvm.Cond.instanceMethod ({ cls := "StrataBase$Constants", name := "size", desc := "()I" } : Jvm.MethodName)) ∈ tblG := rn_4 (List.mem_of_getElem? (i := 124) rfl) rfl
theorem wd_845 : (Jvm.Cond.selects "StrataBase$Constants" ({ cls := "StrataBase$Constants", name := "size", desc := "()I" } : Jvm.MethodName) ({ cls := "StrataBase$Constants", name := "size", desc := "()I" } : Jvm.MethodName)) ∈ tblG := rn_4 (List.mem_of_getElem? (i := 125) rfl) rfl
theorem wd_846 : (Jvm.Cond.code ({ cls := "StrataBase$Constants", name := "size", desc := "()I" } : Jvm.MethodName) prog_3_method_3_code (1 : Nat) (Option.some Jvm.ClassFile.FieldType.int)) ∈ tblG := rn_4 (List.mem_of_getElem? (i := 126) rfl) rfl
theorem wd_847 : (Jvm.Cond.methodLink "StrataBase$Reader" (248 : Nat) ({ cls := "StrataBase$Clauses", name := "setTerm", desc := "(III)V" } : Jvm.MethodName)) ∈ tblG := rn_4 (List.mem_of_getElem? (i := 127) rfl) rfl
theorem wd_848 : (Jvm.Cond.methodLink "StrataBase$Reader" (98 : Nat) ({ cls := "StrataBase$Reader", name := "readLiteralEnd", desc := "()V" } : Jvm.MethodName)) ∈ tblG := rn_4 (List.mem_of_getElem? (i := 128) rfl) rfl
theorem wd_850 : (Jvm.Cond.instanceMethod ({ cls := "StrataBase$Reader", name := "readLiteralEnd", desc := "()V" } : Jvm.MethodName)) ∈ tblG := rn_4 (List.mem_of_getElem? (i := 130) rfl) rfl
theorem wd_851 : (Jvm.Cond.code ({ cls := "StrataBase$Reader", name := "readLiteralEnd", desc := "()V" } : Jvm.MethodName) prog_9_method_23_code (1 : Nat) (Option.none : Option Jvm.ClassFile.FieldType)) ∈ tblG := rn_4 (List.mem_of_getElem? (i := 131) rfl) rfl
theorem wd_852 : (Jvm.Cond.methodLink "StrataBase$Reader" (101 : Nat) ({ cls := "StrataBase$Reader", name := "expectEnd", desc := "()V" } : Jvm.MethodName)) ∈ tblG := rn_4 (List.mem_of_getElem? (i := 132) rfl) rfl
theorem wd_854 : (Jvm.Cond.instanceMethod ({ cls := "StrataBase$Reader", name := "expectEnd", desc := "()V" } : Jvm.MethodName)) ∈ tblG := rn_4 (List.mem_of_getElem? (i := 134) rfl) rfl
theorem wd_855 : (Jvm.Cond.code ({ cls := "StrataBase$Reader", name := "expectEnd", desc := "()V" } : Jvm.MethodName) prog_9_method_24_code (1 : Nat) (Option.none : Option Jvm.ClassFile.FieldType)) ∈ tblG := rn_4 (List.mem_of_getElem? (i := 135) rfl) rfl
theorem wd_856 : (Jvm.Cond.methodLink "StrataBase" (86 : Nat) ({ cls := "StrataBase$Reader", name := "checkCycle", desc := "()V" } : Jvm.MethodName)) ∈ tblG := rn_4 (List.mem_of_getElem? (i := 136) rfl) rfl
theorem wd_857 : (Jvm.Cond.instanceMethod ({ cls := "StrataBase$Reader", name := "checkCycle", desc := "()V" } : Jvm.MethodName)) ∈ tblG := rn_4 (List.mem_of_getElem? (i := 137) rfl) rfl
theorem wd_858 : (Jvm.Cond.selects "StrataBase$Reader" ({ cls := "StrataBase$Reader", name := "checkCycle", desc := "()V" } : Jvm.MethodName) ({ cls := "StrataBase$Reader", name := "checkCycle", desc := "()V" } : Jvm.MethodName)) ∈ tblG := rn_4 (List.mem_of_getElem? (i := 138) rfl) rfl
theorem wd_859 : (Jvm.Cond.code ({ cls := "StrataBase$Reader", name := "checkCycle", desc := "()V" } : Jvm.MethodName) prog_9_method_5_code (2 : Nat) (Option.none : Option Jvm.ClassFile.FieldType)) ∈ tblG := rn_4 (List.mem_of_getElem? (i := 139) rfl) rfl
theorem wd_860 : (Jvm.Cond.methodLink "StrataBase$Reader" (135 : Nat) ({ cls := "StrataBase$Program", name := "placeOfCycle", desc := "()I" } : Jvm.MethodName)) ∈ tblG := rn_4 (List.mem_of_getElem? (i := 140) rfl) rfl
theorem wd_861 : (Jvm.Cond.instanceMethod ({ cls := "StrataBase$Program", name := "placeOfCycle", desc := "()I" } : Jvm.MethodName)) ∈ tblG := rn_4 (List.mem_of_getElem? (i := 141) rfl) rfl
theorem wd_862 : (Jvm.Cond.selects "StrataBase$Program" ({ cls := "StrataBase$Program", name := "placeOfCycle", desc := "()I" } : Jvm.MethodName) ({ cls := "StrataBase$Program", name := "placeOfCycle", desc := "()I" } : Jvm.MethodName)) ∈ tblG := rn_4 (List.mem_of_getElem? (i := 142) rfl) rfl
theorem wd_863 : (Jvm.Cond.code ({ cls := "StrataBase$Program", name := "placeOfCycle", desc := "()I" } : Jvm.MethodName) prog_8_method_4_code (4 : Nat) (Option.some Jvm.ClassFile.FieldType.int)) ∈ tblG := rn_4 (List.mem_of_getElem? (i := 143) rfl) rfl
theorem wd_864 : (Jvm.Cond.methodLink "StrataBase$Program" (61 : Nat) ({ cls := "StrataBase$Program", name := "findReached", desc := "()V" } : Jvm.MethodName)) ∈ tblG := rn_4 (List.mem_of_getElem? (i := 144) rfl) rfl
theorem wd_866 : (Jvm.Cond.instanceMethod ({ cls := "StrataBase$Program", name := "findReached", desc := "()V" } : Jvm.MethodName)) ∈ tblG := rn_4 (List.mem_of_getElem? (i := 146) rfl) rfl
theorem wd_867 : (Jvm.Cond.code ({ cls := "StrataBase$Program", name := "findReached", desc := "()V" } : Jvm.MethodName) prog_8_method_6_code (4 : Nat) (Option.none : Option Jvm.ClassFile.FieldType)) ∈ tblG := rn_4 (List.mem_of_getElem? (i := 147) rfl) rfl
theorem wd_868 : (Jvm.Cond.methodLink "StrataBase$Program" (68 : Nat) ({ cls := "StrataBase$Program", name := "headOf", desc := "(I)I" } : Jvm.MethodName)) ∈ tblG := rn_4 (List.mem_of_getElem? (i := 148) rfl) rfl
theorem wd_869 : (Jvm.Cond.instanceMethod ({ cls := "StrataBase$Program", name := "headOf", desc := "(I)I" } : Jvm.MethodName)) ∈ tblG := rn_4 (List.mem_of_getElem? (i := 149) rfl) rfl
theorem wd_870 : (Jvm.Cond.selects "StrataBase$Program" ({ cls := "StrataBase$Program", name := "headOf", desc := "(I)I" } : Jvm.MethodName) ({ cls := "StrataBase$Program", name := "headOf", desc := "(I)I" } : Jvm.MethodName)) ∈ tblG := rn_4 (List.mem_of_getElem? (i := 150) rfl) rfl
theorem wd_871 : (Jvm.Cond.code ({ cls := "StrataBase$Program", name := "headOf", desc := "(I)I" } : Jvm.MethodName) prog_8_method_3_code (2 : Nat) (Option.some Jvm.ClassFile.FieldType.int)) ∈ tblG := rn_4 (List.mem_of_getElem? (i := 151) rfl) rfl
theorem wd_872 : (Jvm.Cond.methodLink "StrataBase" (89 : Nat) ({ cls := "StrataBase", name := "forgetTape", desc := "()V" } : Jvm.MethodName)) ∈ tblG := rn_4 (List.mem_of_getElem? (i := 152) rfl) rfl
theorem wd_874 : (Jvm.Cond.instanceMethod ({ cls := "StrataBase", name := "forgetTape", desc := "()V" } : Jvm.MethodName)) ∈ tblG := rn_4 (List.mem_of_getElem? (i := 154) rfl) rfl
theorem wd_875 : (Jvm.Cond.code ({ cls := "StrataBase", name := "forgetTape", desc := "()V" } : Jvm.MethodName) prog_1_method_16_code (1 : Nat) (Option.none : Option Jvm.ClassFile.FieldType)) ∈ tblG := rn_4 (List.mem_of_getElem? (i := 155) rfl) rfl
theorem wd_876 : (Jvm.Cond.methodLink "StrataBase" (98 : Nat) ({ cls := "StrataBase$Program", name := "settle", desc := "()V" } : Jvm.MethodName)) ∈ tblG := rn_4 (List.mem_of_getElem? (i := 156) rfl) rfl
theorem wd_877 : (Jvm.Cond.instanceMethod ({ cls := "StrataBase$Program", name := "settle", desc := "()V" } : Jvm.MethodName)) ∈ tblG := rn_4 (List.mem_of_getElem? (i := 157) rfl) rfl
theorem wd_878 : (Jvm.Cond.selects "StrataBase$Program" ({ cls := "StrataBase$Program", name := "settle", desc := "()V" } : Jvm.MethodName) ({ cls := "StrataBase$Program", name := "settle", desc := "()V" } : Jvm.MethodName)) ∈ tblG := rn_4 (List.mem_of_getElem? (i := 158) rfl) rfl
theorem wd_879 : (Jvm.Cond.code ({ cls := "StrataBase$Program", name := "settle", desc := "()V" } : Jvm.MethodName) prog_8_method_5_code (3 : Nat) (Option.none : Option Jvm.ClassFile.FieldType)) ∈ tblG := rn_4 (List.mem_of_getElem? (i := 159) rfl) rfl
theorem wd_880 : (Jvm.Cond.methodLink "StrataBase$Program" (78 : Nat) ({ cls := "StrataBase$Constants", name := "setRanks", desc := "()V" } : Jvm.MethodName)) ∈ tblG := rn_4 (List.mem_of_getElem? (i := 160) rfl) rfl
theorem wd_881 : (Jvm.Cond.methodLink "StrataBase$Program" (81 : Nat) ({ cls := "StrataBase$Clauses", name := "newest", desc := "()I" } : Jvm.MethodName)) ∈ tblG := rn_4 (List.mem_of_getElem? (i := 161) rfl) rfl
theorem wd_882 : (Jvm.Cond.methodLink "StrataBase$Program" (85 : Nat) ({ cls := "StrataBase$Program", name := "settleTerms", desc := "(I)V" } : Jvm.MethodName)) ∈ tblG := rn_4 (List.mem_of_getElem? (i := 162) rfl) rfl
theorem wd_884 : (Jvm.Cond.instanceMethod ({ cls := "StrataBase$Program", name := "settleTerms", desc := "(I)V" } : Jvm.MethodName)) ∈ tblG := rn_4 (List.mem_of_getElem? (i := 164) rfl) rfl
theorem wd_885 : (Jvm.Cond.code ({ cls := "StrataBase$Program", name := "settleTerms", desc := "(I)V" } : Jvm.MethodName) prog_8_method_7_code (7 : Nat) (Option.none : Option Jvm.ClassFile.FieldType)) ∈ tblG := rn_4 (List.mem_of_getElem? (i := 165) rfl) rfl
theorem wd_886 : (Jvm.Cond.methodLink "StrataBase$Program" (103 : Nat) ({ cls := "StrataBase$Clauses", name := "term", desc := "(II)I" } : Jvm.MethodName)) ∈ tblG := rn_4 (List.mem_of_getElem? (i := 166) rfl) rfl
theorem wd_887 : (Jvm.Cond.instanceMethod ({ cls := "StrataBase$Clauses", name := "term", desc := "(II)I" } : Jvm.MethodName)) ∈ tblG := rn_4 (List.mem_of_getElem? (i := 167) rfl) rfl
theorem wd_888 : (Jvm.Cond.selects "StrataBase$Clauses" ({ cls := "StrataBase$Clauses", name := "term", desc := "(II)I" } : Jvm.MethodName) ({ cls := "StrataBase$Clauses", name := "term", desc := "(II)I" } : Jvm.MethodName)) ∈ tblG := rn_4 (List.mem_of_getElem? (i := 168) rfl) rfl
theorem wd_889 : (Jvm.Cond.code ({ cls := "StrataBase$Clauses", name := "term", desc := "(II)I" } : Jvm.MethodName) prog_2_method_7_code (3 : Nat) (Option.some Jvm.ClassFile.FieldType.int)) ∈ tblG := rn_4 (List.mem_of_getElem? (i := 169) rfl) rfl
theorem wd_890 : (Jvm.Cond.methodLink "StrataBase$Program" (106 : Nat) ({ cls := "StrataBase$Constants", name := "rankOf", desc := "(I)I" } : Jvm.MethodName)) ∈ tblG := rn_4 (List.mem_of_getElem? (i := 170) rfl) rfl
theorem wd_891 : (Jvm.Cond.methodLink "StrataBase$Program" (109 : Nat) ({ cls := "StrataBase$Clauses", name := "codeOfRank", desc := "(I)I" } : Jvm.MethodName)) ∈ tblG := rn_4 (List.mem_of_getElem? (i := 171) rfl) rfl
theorem wd_892 : (Jvm.Cond.methodLink "StrataBase$Program" (112 : Nat) ({ cls := "StrataBase$Clauses", name := "setTerm", desc := "(III)V" } : Jvm.MethodName)) ∈ tblG := rn_4 (List.mem_of_getElem? (i := 172) rfl) rfl
theorem wd_893 : (Jvm.Cond.methodLink "StrataBase$Program" (88 : Nat) ({ cls := "StrataBase$Program", name := "raiseStrata", desc := "()Z" } : Jvm.MethodName)) ∈ tblG := rn_4 (List.mem_of_getElem? (i := 173) rfl) rfl
theorem wd_895 : (Jvm.Cond.instanceMethod ({ cls := "StrataBase$Program", name := "raiseStrata", desc := "()Z" } : Jvm.MethodName)) ∈ tblG := rn_4 (List.mem_of_getElem? (i := 175) rfl) rfl
theorem wd_896 : (Jvm.Cond.code ({ cls := "StrataBase$Program", name := "raiseStrata", desc := "()Z" } : Jvm.MethodName) prog_8_method_8_code (7 : Nat) (Option.some Jvm.ClassFile.FieldType.boolean)) ∈ tblG := rn_4 (List.mem_of_getElem? (i := 176) rfl) rfl
theorem wd_897 : (Jvm.Cond.methodLink "StrataBase$Program" (96 : Nat) ({ cls := "java/lang/Math", name := "max", desc := "(II)I" } : Jvm.MethodName)) ∈ tblG := rn_4 (List.mem_of_getElem? (i := 177) rfl) rfl
theorem wd_898 : (Jvm.Cond.methodLink "StrataBase" (101 : Nat) ({ cls := "StrataBase$Rows", name := "open", desc := "(II)V" } : Jvm.MethodName)) ∈ tblG := rn_4 (List.mem_of_getElem? (i := 178) rfl) rfl
theorem wd_899 : (Jvm.Cond.instanceMethod ({ cls := "StrataBase$Rows", name := "open", desc := "(II)V" } : Jvm.MethodName)) ∈ tblG := rn_4 (List.mem_of_getElem? (i := 179) rfl) rfl
theorem wd_900 : (Jvm.Cond.selects "StrataBase$Rows" ({ cls := "StrataBase$Rows", name := "open", desc := "(II)V" } : Jvm.MethodName) ({ cls := "StrataBase$Rows", name := "open", desc := "(II)V" } : Jvm.MethodName)) ∈ tblG := rn_4 (List.mem_of_getElem? (i := 180) rfl) rfl
theorem wd_901 : (Jvm.Cond.code ({ cls := "StrataBase$Rows", name := "open", desc := "(II)V" } : Jvm.MethodName) prog_10_method_2_code (4 : Nat) (Option.none : Option Jvm.ClassFile.FieldType)) ∈ tblG := rn_4 (List.mem_of_getElem? (i := 181) rfl) rfl
theorem wd_902 : (Jvm.Cond.methodLink "StrataBaseLaw" (72 : Nat) ({ cls := "StrataBase", name := "fault", desc := "()I" } : Jvm.MethodName)) ∈ tblG := rn_4 (List.mem_of_getElem? (i := 182) rfl) rfl
theorem wd_903 : (Jvm.Cond.instanceMethod ({ cls := "StrataBase", name := "fault", desc := "()I" } : Jvm.MethodName)) ∈ tblG := rn_4 (List.mem_of_getElem? (i := 183) rfl) rfl
theorem wd_904 : (Jvm.Cond.selects "StrataBase" ({ cls := "StrataBase", name := "fault", desc := "()I" } : Jvm.MethodName) ({ cls := "StrataBase", name := "fault", desc := "()I" } : Jvm.MethodName)) ∈ tblG := rn_4 (List.mem_of_getElem? (i := 184) rfl) rfl
theorem wd_905 : (Jvm.Cond.code ({ cls := "StrataBase", name := "fault", desc := "()I" } : Jvm.MethodName) prog_1_method_5_code (1 : Nat) (Option.some Jvm.ClassFile.FieldType.int)) ∈ tblG := rn_4 (List.mem_of_getElem? (i := 185) rfl) rfl
theorem wd_906 : (Jvm.Cond.methodLink "StrataBaseLaw" (83 : Nat) ({ cls := "StrataBase", name := "columns", desc := "()I" } : Jvm.MethodName)) ∈ tblG := rn_4 (List.mem_of_getElem? (i := 186) rfl) rfl
theorem wd_907 : (Jvm.Cond.instanceMethod ({ cls := "StrataBase", name := "columns", desc := "()I" } : Jvm.MethodName)) ∈ tblG := rn_4 (List.mem_of_getElem? (i := 187) rfl) rfl
theorem wd_908 : (Jvm.Cond.selects "StrataBase" ({ cls := "StrataBase", name := "columns", desc := "()I" } : Jvm.MethodName) ({ cls := "StrataBase", name := "columns", desc := "()I" } : Jvm.MethodName)) ∈ tblG := rn_4 (List.mem_of_getElem? (i := 188) rfl) rfl
theorem wd_909 : (Jvm.Cond.code ({ cls := "StrataBase", name := "columns", desc := "()I" } : Jvm.MethodName) prog_1_method_8_code (1 : Nat) (Option.some Jvm.ClassFile.FieldType.int)) ∈ tblG := rn_4 (List.mem_of_getElem? (i := 189) rfl) rfl
theorem wd_910 : (Jvm.Cond.methodLink "StrataBaseLaw" (101 : Nat) ({ cls := "StrataBase", name := "stratum", desc := "()I" } : Jvm.MethodName)) ∈ tblG := rn_4 (List.mem_of_getElem? (i := 190) rfl) rfl
theorem wd_911 : (Jvm.Cond.instanceMethod ({ cls := "StrataBase", name := "stratum", desc := "()I" } : Jvm.MethodName)) ∈ tblG := rn_4 (List.mem_of_getElem? (i := 191) rfl) rfl
theorem wd_912 : (Jvm.Cond.selects "StrataBase" ({ cls := "StrataBase", name := "stratum", desc := "()I" } : Jvm.MethodName) ({ cls := "StrataBase", name := "stratum", desc := "()I" } : Jvm.MethodName)) ∈ tblG := rn_4 (List.mem_of_getElem? (i := 192) rfl) rfl
theorem wd_913 : (Jvm.Cond.code ({ cls := "StrataBase", name := "stratum", desc := "()I" } : Jvm.MethodName) prog_1_method_13_code (2 : Nat) (Option.some Jvm.ClassFile.FieldType.int)) ∈ tblG := rn_4 (List.mem_of_getElem? (i := 193) rfl) rfl
theorem wd_914 : (Jvm.Cond.methodLink "StrataBaseLaw" (55 : Nat) ({ cls := "StrataBaseLaw", name := "feed", desc := "(LStrataBase;IIIII[J)I" } : Jvm.MethodName)) ∈ tblG := rn_4 (List.mem_of_getElem? (i := 194) rfl) rfl
theorem wd_915 : (Jvm.Cond.static ({ cls := "StrataBaseLaw", name := "feed", desc := "(LStrataBase;IIIII[J)I" } : Jvm.MethodName)) ∈ tblG := rn_4 (List.mem_of_getElem? (i := 195) rfl) rfl
theorem wd_916 : (Jvm.Cond.codeWith ({ cls := "StrataBaseLaw", name := "feed", desc := "(LStrataBase;IIIII[J)I" } : Jvm.MethodName) method_3_code (8 : Nat) (Option.some Jvm.ClassFile.FieldType.int) [((0 : Nat), (16 : Nat), (19 : Nat), (13 : Nat))]) ∈ tblG := rn_4 (List.mem_of_getElem? (i := 196) rfl) rfl
theorem wd_917 : (Jvm.Cond.classLink "StrataBaseLaw" (13 : Nat) "java/lang/UnsupportedOperationException") ∈ tblG := rn_4 (List.mem_of_getElem? (i := 197) rfl) rfl
theorem wd_918 : (Jvm.Cond.methodLink "StrataBaseLaw" (7 : Nat) ({ cls := "StrataBase", name := "feed", desc := "(IIIII)I" } : Jvm.MethodName)) ∈ tblG := rn_4 (List.mem_of_getElem? (i := 198) rfl) rfl
theorem wd_919 : (Jvm.Cond.instanceMethod ({ cls := "StrataBase", name := "feed", desc := "(IIIII)I" } : Jvm.MethodName)) ∈ tblG := rn_4 (List.mem_of_getElem? (i := 199) rfl) rfl
theorem wd_920 : (Jvm.Cond.selects "StrataBase" ({ cls := "StrataBase", name := "feed", desc := "(IIIII)I" } : Jvm.MethodName) ({ cls := "StrataBase", name := "feed", desc := "(IIIII)I" } : Jvm.MethodName)) ∈ tblG := rn_4 (List.mem_of_getElem? (i := 200) rfl) rfl
theorem wd_921 : (Jvm.Cond.code ({ cls := "StrataBase", name := "feed", desc := "(IIIII)I" } : Jvm.MethodName) prog_1_method_2_code (6 : Nat) (Option.some Jvm.ClassFile.FieldType.int)) ∈ tblG := rn_4 (List.mem_of_getElem? (i := 201) rfl) rfl
theorem wd_922 : (Jvm.Cond.classLink "StrataBase" (70 : Nat) "java/lang/UnsupportedOperationException") ∈ tblG := rn_4 (List.mem_of_getElem? (i := 202) rfl) rfl
theorem wd_923 : (Jvm.Cond.instantiable "java/lang/UnsupportedOperationException" (6 : Nat)) ∈ tblG := rn_4 (List.mem_of_getElem? (i := 203) rfl) rfl
theorem wd_931 : (Jvm.Cond.selects "java/lang/UnsupportedOperationException" ({ cls := "java/lang/Throwable", name := "fillInStackTrace", desc := "(I)Ljava/lang/Throwable;" } : Jvm.MethodName) ({ cls := "java/lang/Throwable", name := "fillInStackTrace", desc := "(I)Ljava/lang/Throwable;" } : Jvm.MethodName)) ∈ tblG := rn_4 (List.mem_of_getElem? (i := 211) rfl) rfl
theorem wd_932 : (Jvm.Cond.selects "java/lang/UnsupportedOperationException" ({ cls := "java/lang/Throwable", name := "fillInStackTrace", desc := "()Ljava/lang/Throwable;" } : Jvm.MethodName) ({ cls := "java/lang/Throwable", name := "fillInStackTrace", desc := "()Ljava/lang/Throwable;" } : Jvm.MethodName)) ∈ tblG := rn_4 (List.mem_of_getElem? (i := 212) rfl) rfl
theorem wd_933 : (Jvm.Cond.lays "java/lang/UnsupportedOperationException" "java/lang/Throwable" "cause" "Ljava/lang/Throwable;") ∈ tblG := rn_4 (List.mem_of_getElem? (i := 213) rfl) rfl
theorem wd_934 : (Jvm.Cond.lays "java/lang/Throwable" "java/lang/Throwable" "cause" "Ljava/lang/Throwable;") ∈ tblG := rn_4 (List.mem_of_getElem? (i := 214) rfl) rfl
theorem wd_935 : (Jvm.Cond.lays "java/lang/UnsupportedOperationException" "java/lang/Throwable" "stackTrace" "[Ljava/lang/StackTraceElement;") ∈ tblG := rn_4 (List.mem_of_getElem? (i := 215) rfl) rfl
theorem wd_936 : (Jvm.Cond.lays "java/lang/Throwable" "java/lang/Throwable" "stackTrace" "[Ljava/lang/StackTraceElement;") ∈ tblG := rn_4 (List.mem_of_getElem? (i := 216) rfl) rfl
theorem wd_937 : (Jvm.Cond.lays "java/lang/UnsupportedOperationException" "java/lang/Throwable" "suppressedExceptions" "Ljava/util/List;") ∈ tblG := rn_4 (List.mem_of_getElem? (i := 217) rfl) rfl
theorem wd_938 : (Jvm.Cond.lays "java/lang/Throwable" "java/lang/Throwable" "suppressedExceptions" "Ljava/util/List;") ∈ tblG := rn_4 (List.mem_of_getElem? (i := 218) rfl) rfl
theorem wd_939 : (Jvm.Cond.lays "java/lang/UnsupportedOperationException" "java/lang/Throwable" "detailMessage" "Ljava/lang/String;") ∈ tblG := rn_4 (List.mem_of_getElem? (i := 219) rfl) rfl
theorem wd_940 : (Jvm.Cond.lays "java/lang/Throwable" "java/lang/Throwable" "detailMessage" "Ljava/lang/String;") ∈ tblG := rn_4 (List.mem_of_getElem? (i := 220) rfl) rfl
theorem wd_941 : (Jvm.Cond.lays "java/lang/UnsupportedOperationException" "java/lang/Throwable" "backtrace" "Ljava/lang/Object;") ∈ tblG := rn_4 (List.mem_of_getElem? (i := 221) rfl) rfl
theorem wd_942 : (Jvm.Cond.lays "java/lang/Throwable" "java/lang/Throwable" "backtrace" "Ljava/lang/Object;") ∈ tblG := rn_4 (List.mem_of_getElem? (i := 222) rfl) rfl
theorem wd_943 : (Jvm.Cond.fieldLink "java/lang/Throwable" (198 : Nat) "java/lang/Throwable" "backtrace" "Ljava/lang/Object;") ∈ tblG := rn_4 (List.mem_of_getElem? (i := 223) rfl) rfl
theorem wd_945 : (Jvm.Cond.instanceMethod ({ cls := "java/lang/Throwable", name := "<init>", desc := "()V" } : Jvm.MethodName)) ∈ tblG := rn_4 (List.mem_of_getElem? (i := 225) rfl) rfl
theorem wd_946 : (Jvm.Cond.code ({ cls := "java/lang/Throwable", name := "<init>", desc := "()V" } : Jvm.MethodName) prog_24_method_1_code (1 : Nat) (Option.none : Option Jvm.ClassFile.FieldType)) ∈ tblG := rn_4 (List.mem_of_getElem? (i := 226) rfl) rfl
theorem wd_947 : (Jvm.Cond.methodLink "java/lang/Throwable" (1 : Nat) ({ cls := "java/lang/Object", name := "<init>", desc := "()V" } : Jvm.MethodName)) ∈ tblG := rn_4 (List.mem_of_getElem? (i := 227) rfl) rfl
theorem wd_948 : (Jvm.Cond.fieldLink "java/lang/Throwable" (13 : Nat) "java/lang/Throwable" "UNASSIGNED_STACK" "[Ljava/lang/StackTraceElement;") ∈ tblG := rn_4 (List.mem_of_getElem? (i := 228) rfl) rfl
theorem wd_950 : (Jvm.Cond.fieldLink "java/lang/Throwable" (20 : Nat) "java/lang/Throwable" "SUPPRESSED_SENTINEL" "Ljava/util/List;") ∈ tblG := rn_4 (List.mem_of_getElem? (i := 230) rfl) rfl
theorem wd_952 : (Jvm.Cond.methodLink "java/lang/Throwable" (27 : Nat) ({ cls := "java/lang/Throwable", name := "fillInStackTrace", desc := "()Ljava/lang/Throwable;" } : Jvm.MethodName)) ∈ tblG := rn_4 (List.mem_of_getElem? (i := 232) rfl) rfl
theorem wd_953 : (Jvm.Cond.instanceMethod ({ cls := "java/lang/Throwable", name := "fillInStackTrace", desc := "()Ljava/lang/Throwable;" } : Jvm.MethodName)) ∈ tblG := rn_4 (List.mem_of_getElem? (i := 233) rfl) rfl
theorem wd_955 : (Jvm.Cond.selects "java/lang/IllegalArgumentException" ({ cls := "java/lang/Throwable", name := "fillInStackTrace", desc := "()Ljava/lang/Throwable;" } : Jvm.MethodName) ({ cls := "java/lang/Throwable", name := "fillInStackTrace", desc := "()Ljava/lang/Throwable;" } : Jvm.MethodName)) ∈ tblG := rn_4 (List.mem_of_getElem? (i := 235) rfl) rfl
theorem wd_956 : (Jvm.Cond.selects "java/lang/IllegalStateException" ({ cls := "java/lang/Throwable", name := "fillInStackTrace", desc := "()Ljava/lang/Throwable;" } : Jvm.MethodName) ({ cls := "java/lang/Throwable", name := "fillInStackTrace", desc := "()Ljava/lang/Throwable;" } : Jvm.MethodName)) ∈ tblG := rn_4 (List.mem_of_getElem? (i := 236) rfl) rfl
theorem wd_957 : (Jvm.Cond.selects "java/lang/IndexOutOfBoundsException" ({ cls := "java/lang/Throwable", name := "fillInStackTrace", desc := "()Ljava/lang/Throwable;" } : Jvm.MethodName) ({ cls := "java/lang/Throwable", name := "fillInStackTrace", desc := "()Ljava/lang/Throwable;" } : Jvm.MethodName)) ∈ tblG := rn_4 (List.mem_of_getElem? (i := 237) rfl) rfl
theorem wd_958 : (Jvm.Cond.codeSync ({ cls := "java/lang/Throwable", name := "fillInStackTrace", desc := "()Ljava/lang/Throwable;" } : Jvm.MethodName) prog_24_method_18_code (1 : Nat) (Option.some (Jvm.ClassFile.FieldType.object "java/lang/Throwable"))) ∈ tblG := rn_4 (List.mem_of_getElem? (i := 238) rfl) rfl
theorem wd_959 : (Jvm.Cond.methodLink "java/lang/Throwable" (202 : Nat) ({ cls := "java/lang/Throwable", name := "fillInStackTrace", desc := "(I)Ljava/lang/Throwable;" } : Jvm.MethodName)) ∈ tblG := rn_4 (List.mem_of_getElem? (i := 239) rfl) rfl
theorem wd_961 : (Jvm.Cond.instanceMethod ({ cls := "java/lang/Throwable", name := "fillInStackTrace", desc := "(I)Ljava/lang/Throwable;" } : Jvm.MethodName)) ∈ tblG := rn_5 (List.mem_of_getElem? (i := 1) rfl) rfl
theorem wd_962 : (Jvm.Cond.instantiable "java/lang/Throwable" (6 : Nat)) ∈ tblG := rn_5 (List.mem_of_getElem? (i := 2) rfl) rfl
theorem wd_963 : (Jvm.Cond.native ({ cls := "java/lang/Throwable", name := "fillInStackTrace", desc := "(I)Ljava/lang/Throwable;" } : Jvm.MethodName)) ∈ tblG := rn_5 (List.mem_of_getElem? (i := 3) rfl) rfl
theorem wd_964 : (Jvm.Cond.methodLink "StrataBase" (72 : Nat) ({ cls := "java/lang/UnsupportedOperationException", name := "<init>", desc := "()V" } : Jvm.MethodName)) ∈ tblG := rn_5 (List.mem_of_getElem? (i := 4) rfl) rfl
theorem wd_965 : (Jvm.Cond.instanceMethod ({ cls := "java/lang/UnsupportedOperationException", name := "<init>", desc := "()V" } : Jvm.MethodName)) ∈ tblG := rn_5 (List.mem_of_getElem? (i := 5) rfl) rfl
theorem wd_966 : (Jvm.Cond.code ({ cls := "java/lang/UnsupportedOperationException", name := "<init>", desc := "()V" } : Jvm.MethodName) prog_25_method_1_code (1 : Nat) (Option.none : Option Jvm.ClassFile.FieldType)) ∈ tblG := rn_5 (List.mem_of_getElem? (i := 6) rfl) rfl
theorem wd_967 : (Jvm.Cond.methodLink "java/lang/UnsupportedOperationException" (1 : Nat) ({ cls := "java/lang/RuntimeException", name := "<init>", desc := "()V" } : Jvm.MethodName)) ∈ tblG := rn_5 (List.mem_of_getElem? (i := 7) rfl) rfl
theorem wd_968 : (Jvm.Cond.instanceMethod ({ cls := "java/lang/RuntimeException", name := "<init>", desc := "()V" } : Jvm.MethodName)) ∈ tblG := rn_5 (List.mem_of_getElem? (i := 8) rfl) rfl
theorem wd_969 : (Jvm.Cond.code ({ cls := "java/lang/RuntimeException", name := "<init>", desc := "()V" } : Jvm.MethodName) prog_22_method_1_code (1 : Nat) (Option.none : Option Jvm.ClassFile.FieldType)) ∈ tblG := rn_5 (List.mem_of_getElem? (i := 9) rfl) rfl
theorem wd_970 : (Jvm.Cond.methodLink "java/lang/RuntimeException" (1 : Nat) ({ cls := "java/lang/Exception", name := "<init>", desc := "()V" } : Jvm.MethodName)) ∈ tblG := rn_5 (List.mem_of_getElem? (i := 10) rfl) rfl
theorem wd_971 : (Jvm.Cond.instanceMethod ({ cls := "java/lang/Exception", name := "<init>", desc := "()V" } : Jvm.MethodName)) ∈ tblG := rn_5 (List.mem_of_getElem? (i := 11) rfl) rfl
theorem wd_972 : (Jvm.Cond.code ({ cls := "java/lang/Exception", name := "<init>", desc := "()V" } : Jvm.MethodName) prog_16_method_1_code (1 : Nat) (Option.none : Option Jvm.ClassFile.FieldType)) ∈ tblG := rn_5 (List.mem_of_getElem? (i := 12) rfl) rfl
theorem wd_973 : (Jvm.Cond.methodLink "java/lang/Exception" (1 : Nat) ({ cls := "java/lang/Throwable", name := "<init>", desc := "()V" } : Jvm.MethodName)) ∈ tblG := rn_5 (List.mem_of_getElem? (i := 13) rfl) rfl
theorem wd_975 : (Jvm.Cond.fieldLink "java/lang/Throwable" (7 : Nat) "java/lang/Throwable" "cause" "Ljava/lang/Throwable;") ∈ tblG := rn_5 (List.mem_of_getElem? (i := 15) rfl) rfl
theorem wd_976 : (Jvm.Cond.fieldLink "java/lang/Throwable" (17 : Nat) "java/lang/Throwable" "stackTrace" "[Ljava/lang/StackTraceElement;") ∈ tblG := rn_5 (List.mem_of_getElem? (i := 16) rfl) rfl
theorem wd_977 : (Jvm.Cond.fieldLink "java/lang/Throwable" (24 : Nat) "java/lang/Throwable" "suppressedExceptions" "Ljava/util/List;") ∈ tblG := rn_5 (List.mem_of_getElem? (i := 17) rfl) rfl
theorem wd_982 : (Jvm.Cond.lays "java/lang/UnsupportedOperationException" "java/lang/Throwable" "depth" "I") ∈ tblG := rn_5 (List.mem_of_getElem? (i := 22) rfl) rfl
theorem wd_986 : (Jvm.Cond.methodLink "StrataBase" (73 : Nat) ({ cls := "StrataBase", name := "putBytes", desc := "(I)V" } : Jvm.MethodName)) ∈ tblG := rn_5 (List.mem_of_getElem? (i := 26) rfl) rfl
theorem wd_988 : (Jvm.Cond.instanceMethod ({ cls := "StrataBase", name := "putBytes", desc := "(I)V" } : Jvm.MethodName)) ∈ tblG := rn_5 (List.mem_of_getElem? (i := 28) rfl) rfl
theorem wd_989 : (Jvm.Cond.code ({ cls := "StrataBase", name := "putBytes", desc := "(I)V" } : Jvm.MethodName) prog_1_method_15_code (3 : Nat) (Option.none : Option Jvm.ClassFile.FieldType)) ∈ tblG := rn_5 (List.mem_of_getElem? (i := 29) rfl) rfl
theorem wd_990 : (Jvm.Cond.methodLink "StrataBaseLaw" (64 : Nat) ({ cls := "StrataBaseLaw", name := "end", desc := "(LStrataBase;I)I" } : Jvm.MethodName)) ∈ tblG := rn_5 (List.mem_of_getElem? (i := 30) rfl) rfl
theorem wd_991 : (Jvm.Cond.static ({ cls := "StrataBaseLaw", name := "end", desc := "(LStrataBase;I)I" } : Jvm.MethodName)) ∈ tblG := rn_5 (List.mem_of_getElem? (i := 31) rfl) rfl
theorem wd_992 : (Jvm.Cond.codeWith ({ cls := "StrataBaseLaw", name := "end", desc := "(LStrataBase;I)I" } : Jvm.MethodName) method_4_code (3 : Nat) (Option.some Jvm.ClassFile.FieldType.int) [((0 : Nat), (5 : Nat), (8 : Nat), (19 : Nat))]) ∈ tblG := rn_5 (List.mem_of_getElem? (i := 32) rfl) rfl
theorem wd_993 : (Jvm.Cond.classLink "StrataBaseLaw" (19 : Nat) "java/lang/IllegalArgumentException") ∈ tblG := rn_5 (List.mem_of_getElem? (i := 33) rfl) rfl
theorem wd_994 : (Jvm.Cond.methodLink "StrataBaseLaw" (15 : Nat) ({ cls := "StrataBase", name := "end", desc := "(I)V" } : Jvm.MethodName)) ∈ tblG := rn_5 (List.mem_of_getElem? (i := 34) rfl) rfl
theorem wd_995 : (Jvm.Cond.instanceMethod ({ cls := "StrataBase", name := "end", desc := "(I)V" } : Jvm.MethodName)) ∈ tblG := rn_5 (List.mem_of_getElem? (i := 35) rfl) rfl
theorem wd_996 : (Jvm.Cond.selects "StrataBase" ({ cls := "StrataBase", name := "end", desc := "(I)V" } : Jvm.MethodName) ({ cls := "StrataBase", name := "end", desc := "(I)V" } : Jvm.MethodName)) ∈ tblG := rn_5 (List.mem_of_getElem? (i := 36) rfl) rfl
theorem wd_997 : (Jvm.Cond.code ({ cls := "StrataBase", name := "end", desc := "(I)V" } : Jvm.MethodName) prog_1_method_3_code (2 : Nat) (Option.none : Option Jvm.ClassFile.FieldType)) ∈ tblG := rn_5 (List.mem_of_getElem? (i := 37) rfl) rfl
theorem wd_998 : (Jvm.Cond.classLink "StrataBase" (76 : Nat) "java/lang/IllegalArgumentException") ∈ tblG := rn_5 (List.mem_of_getElem? (i := 38) rfl) rfl
theorem wd_999 : (Jvm.Cond.instantiable "java/lang/IllegalArgumentException" (6 : Nat)) ∈ tblG := rn_5 (List.mem_of_getElem? (i := 39) rfl) rfl
theorem wd_1001 : (Jvm.Cond.selects "java/lang/IllegalArgumentException" ({ cls := "java/lang/Throwable", name := "fillInStackTrace", desc := "(I)Ljava/lang/Throwable;" } : Jvm.MethodName) ({ cls := "java/lang/Throwable", name := "fillInStackTrace", desc := "(I)Ljava/lang/Throwable;" } : Jvm.MethodName)) ∈ tblG := rn_5 (List.mem_of_getElem? (i := 41) rfl) rfl
theorem wd_1002 : (Jvm.Cond.lays "java/lang/IllegalArgumentException" "java/lang/Throwable" "cause" "Ljava/lang/Throwable;") ∈ tblG := rn_5 (List.mem_of_getElem? (i := 42) rfl) rfl
theorem wd_1003 : (Jvm.Cond.lays "java/lang/IllegalArgumentException" "java/lang/Throwable" "stackTrace" "[Ljava/lang/StackTraceElement;") ∈ tblG := rn_5 (List.mem_of_getElem? (i := 43) rfl) rfl
theorem wd_1004 : (Jvm.Cond.lays "java/lang/IllegalArgumentException" "java/lang/Throwable" "suppressedExceptions" "Ljava/util/List;") ∈ tblG := rn_5 (List.mem_of_getElem? (i := 44) rfl) rfl
theorem wd_1005 : (Jvm.Cond.lays "java/lang/IllegalArgumentException" "java/lang/Throwable" "detailMessage" "Ljava/lang/String;") ∈ tblG := rn_5 (List.mem_of_getElem? (i := 45) rfl) rfl
theorem wd_1006 : (Jvm.Cond.lays "java/lang/IllegalArgumentException" "java/lang/Throwable" "backtrace" "Ljava/lang/Object;") ∈ tblG := rn_5 (List.mem_of_getElem? (i := 46) rfl) rfl
theorem wd_1007 : (Jvm.Cond.methodLink "StrataBase" (78 : Nat) ({ cls := "java/lang/IllegalArgumentException", name := "<init>", desc := "()V" } : Jvm.MethodName)) ∈ tblG := rn_5 (List.mem_of_getElem? (i := 47) rfl) rfl
theorem wd_1008 : (Jvm.Cond.instanceMethod ({ cls := "java/lang/IllegalArgumentException", name := "<init>", desc := "()V" } : Jvm.MethodName)) ∈ tblG := rn_5 (List.mem_of_getElem? (i := 48) rfl) rfl
theorem wd_1009 : (Jvm.Cond.code ({ cls := "java/lang/IllegalArgumentException", name := "<init>", desc := "()V" } : Jvm.MethodName) prog_17_method_1_code (1 : Nat) (Option.none : Option Jvm.ClassFile.FieldType)) ∈ tblG := rn_5 (List.mem_of_getElem? (i := 49) rfl) rfl
theorem wd_1010 : (Jvm.Cond.methodLink "java/lang/IllegalArgumentException" (1 : Nat) ({ cls := "java/lang/RuntimeException", name := "<init>", desc := "()V" } : Jvm.MethodName)) ∈ tblG := rn_5 (List.mem_of_getElem? (i := 50) rfl) rfl
theorem wd_1011 : (Jvm.Cond.lays "java/lang/IllegalArgumentException" "java/lang/Throwable" "depth" "I") ∈ tblG := rn_5 (List.mem_of_getElem? (i := 51) rfl) rfl
theorem wd_1013 : (Jvm.Cond.methodLink "StrataBaseLaw" (76 : Nat) ({ cls := "StrataBaseLaw", name := "run", desc := "(LStrataBase;[J)I" } : Jvm.MethodName)) ∈ tblG := rn_5 (List.mem_of_getElem? (i := 53) rfl) rfl
theorem wd_1014 : (Jvm.Cond.static ({ cls := "StrataBaseLaw", name := "run", desc := "(LStrataBase;[J)I" } : Jvm.MethodName)) ∈ tblG := rn_5 (List.mem_of_getElem? (i := 54) rfl) rfl
theorem wd_1015 : (Jvm.Cond.codeWith ({ cls := "StrataBaseLaw", name := "run", desc := "(LStrataBase;[J)I" } : Jvm.MethodName) method_5_code (3 : Nat) (Option.some Jvm.ClassFile.FieldType.int) [((0 : Nat), (8 : Nat), (11 : Nat), (13 : Nat))]) ∈ tblG := rn_5 (List.mem_of_getElem? (i := 55) rfl) rfl
theorem wd_1016 : (Jvm.Cond.methodLink "StrataBaseLaw" (21 : Nat) ({ cls := "StrataBase", name := "run", desc := "()I" } : Jvm.MethodName)) ∈ tblG := rn_5 (List.mem_of_getElem? (i := 56) rfl) rfl
theorem wd_1017 : (Jvm.Cond.instanceMethod ({ cls := "StrataBase", name := "run", desc := "()I" } : Jvm.MethodName)) ∈ tblG := rn_5 (List.mem_of_getElem? (i := 57) rfl) rfl
theorem wd_1018 : (Jvm.Cond.selects "StrataBase" ({ cls := "StrataBase", name := "run", desc := "()I" } : Jvm.MethodName) ({ cls := "StrataBase", name := "run", desc := "()I" } : Jvm.MethodName)) ∈ tblG := rn_5 (List.mem_of_getElem? (i := 58) rfl) rfl
theorem wd_1019 : (Jvm.Cond.code ({ cls := "StrataBase", name := "run", desc := "()I" } : Jvm.MethodName) prog_1_method_6_code (2 : Nat) (Option.some Jvm.ClassFile.FieldType.int)) ∈ tblG := rn_5 (List.mem_of_getElem? (i := 59) rfl) rfl
theorem wd_1020 : (Jvm.Cond.methodLink "StrataBase" (112 : Nat) ({ cls := "StrataBase$Facts", name := "clear", desc := "()V" } : Jvm.MethodName)) ∈ tblG := rn_5 (List.mem_of_getElem? (i := 60) rfl) rfl
theorem wd_1021 : (Jvm.Cond.instanceMethod ({ cls := "StrataBase$Facts", name := "clear", desc := "()V" } : Jvm.MethodName)) ∈ tblG := rn_5 (List.mem_of_getElem? (i := 61) rfl) rfl
theorem wd_1022 : (Jvm.Cond.selects "StrataBase$Facts" ({ cls := "StrataBase$Facts", name := "clear", desc := "()V" } : Jvm.MethodName) ({ cls := "StrataBase$Facts", name := "clear", desc := "()V" } : Jvm.MethodName)) ∈ tblG := rn_5 (List.mem_of_getElem? (i := 62) rfl) rfl
theorem wd_1023 : (Jvm.Cond.code ({ cls := "StrataBase$Facts", name := "clear", desc := "()V" } : Jvm.MethodName) prog_4_method_4_code (1 : Nat) (Option.none : Option Jvm.ClassFile.FieldType)) ∈ tblG := rn_5 (List.mem_of_getElem? (i := 63) rfl) rfl
theorem wd_1024 : (Jvm.Cond.methodLink "StrataBase$Facts" (60 : Nat) ({ cls := "java/util/Arrays", name := "fill", desc := "([II)V" } : Jvm.MethodName)) ∈ tblG := rn_5 (List.mem_of_getElem? (i := 64) rfl) rfl
theorem wd_1025 : (Jvm.Cond.methodLink "StrataBase" (115 : Nat) ({ cls := "StrataBase$Join", name := "forgetIndexes", desc := "()V" } : Jvm.MethodName)) ∈ tblG := rn_5 (List.mem_of_getElem? (i := 65) rfl) rfl
theorem wd_1026 : (Jvm.Cond.instanceMethod ({ cls := "StrataBase$Join", name := "forgetIndexes", desc := "()V" } : Jvm.MethodName)) ∈ tblG := rn_5 (List.mem_of_getElem? (i := 66) rfl) rfl
theorem wd_1027 : (Jvm.Cond.selects "StrataBase$Join" ({ cls := "StrataBase$Join", name := "forgetIndexes", desc := "()V" } : Jvm.MethodName) ({ cls := "StrataBase$Join", name := "forgetIndexes", desc := "()V" } : Jvm.MethodName)) ∈ tblG := rn_5 (List.mem_of_getElem? (i := 67) rfl) rfl
theorem wd_1028 : (Jvm.Cond.code ({ cls := "StrataBase$Join", name := "forgetIndexes", desc := "()V" } : Jvm.MethodName) prog_6_method_2_code (1 : Nat) (Option.none : Option Jvm.ClassFile.FieldType)) ∈ tblG := rn_5 (List.mem_of_getElem? (i := 68) rfl) rfl
theorem wd_1029 : (Jvm.Cond.methodLink "StrataBase$Join" (35 : Nat) ({ cls := "StrataBase$Indexes", name := "clear", desc := "()V" } : Jvm.MethodName)) ∈ tblG := rn_5 (List.mem_of_getElem? (i := 69) rfl) rfl
theorem wd_1030 : (Jvm.Cond.instanceMethod ({ cls := "StrataBase$Indexes", name := "clear", desc := "()V" } : Jvm.MethodName)) ∈ tblG := rn_5 (List.mem_of_getElem? (i := 70) rfl) rfl
theorem wd_1031 : (Jvm.Cond.selects "StrataBase$Indexes" ({ cls := "StrataBase$Indexes", name := "clear", desc := "()V" } : Jvm.MethodName) ({ cls := "StrataBase$Indexes", name := "clear", desc := "()V" } : Jvm.MethodName)) ∈ tblG := rn_5 (List.mem_of_getElem? (i := 71) rfl) rfl
theorem wd_1032 : (Jvm.Cond.code ({ cls := "StrataBase$Indexes", name := "clear", desc := "()V" } : Jvm.MethodName) prog_5_method_2_code (1 : Nat) (Option.none : Option Jvm.ClassFile.FieldType)) ∈ tblG := rn_5 (List.mem_of_getElem? (i := 72) rfl) rfl
theorem wd_1033 : (Jvm.Cond.methodLink "StrataBase" (124 : Nat) ({ cls := "StrataBase$Join", name := "closeStratum", desc := "(LStrataBase$Program;I)V" } : Jvm.MethodName)) ∈ tblG := rn_5 (List.mem_of_getElem? (i := 73) rfl) rfl
theorem wd_1034 : (Jvm.Cond.instanceMethod ({ cls := "StrataBase$Join", name := "closeStratum", desc := "(LStrataBase$Program;I)V" } : Jvm.MethodName)) ∈ tblG := rn_5 (List.mem_of_getElem? (i := 74) rfl) rfl
theorem wd_1035 : (Jvm.Cond.selects "StrataBase$Join" ({ cls := "StrataBase$Join", name := "closeStratum", desc := "(LStrataBase$Program;I)V" } : Jvm.MethodName) ({ cls := "StrataBase$Join", name := "closeStratum", desc := "(LStrataBase$Program;I)V" } : Jvm.MethodName)) ∈ tblG := rn_5 (List.mem_of_getElem? (i := 75) rfl) rfl
theorem wd_1036 : (Jvm.Cond.code ({ cls := "StrataBase$Join", name := "closeStratum", desc := "(LStrataBase$Program;I)V" } : Jvm.MethodName) prog_6_method_4_code (7 : Nat) (Option.none : Option Jvm.ClassFile.FieldType)) ∈ tblG := rn_5 (List.mem_of_getElem? (i := 76) rfl) rfl
theorem wd_1037 : (Jvm.Cond.methodLink "StrataBase$Join" (69 : Nat) ({ cls := "StrataBase$Join", name := "addPlainFacts", desc := "(LStrataBase$Program;I)V" } : Jvm.MethodName)) ∈ tblG := rn_5 (List.mem_of_getElem? (i := 77) rfl) rfl
theorem wd_1039 : (Jvm.Cond.instanceMethod ({ cls := "StrataBase$Join", name := "addPlainFacts", desc := "(LStrataBase$Program;I)V" } : Jvm.MethodName)) ∈ tblG := rn_5 (List.mem_of_getElem? (i := 79) rfl) rfl
theorem wd_1040 : (Jvm.Cond.code ({ cls := "StrataBase$Join", name := "addPlainFacts", desc := "(LStrataBase$Program;I)V" } : Jvm.MethodName) prog_6_method_5_code (5 : Nat) (Option.none : Option Jvm.ClassFile.FieldType)) ∈ tblG := rn_5 (List.mem_of_getElem? (i := 80) rfl) rfl
theorem wd_1041 : (Jvm.Cond.methodLink "StrataBase$Join" (92 : Nat) ({ cls := "StrataBase$Program", name := "headOf", desc := "(I)I" } : Jvm.MethodName)) ∈ tblG := rn_5 (List.mem_of_getElem? (i := 81) rfl) rfl
theorem wd_1042 : (Jvm.Cond.methodLink "StrataBase$Join" (96 : Nat) ({ cls := "StrataBase$Clauses", name := "hasBody", desc := "(I)Z" } : Jvm.MethodName)) ∈ tblG := rn_5 (List.mem_of_getElem? (i := 82) rfl) rfl
theorem wd_1043 : (Jvm.Cond.instanceMethod ({ cls := "StrataBase$Clauses", name := "hasBody", desc := "(I)Z" } : Jvm.MethodName)) ∈ tblG := rn_5 (List.mem_of_getElem? (i := 83) rfl) rfl
theorem wd_1044 : (Jvm.Cond.selects "StrataBase$Clauses" ({ cls := "StrataBase$Clauses", name := "hasBody", desc := "(I)Z" } : Jvm.MethodName) ({ cls := "StrataBase$Clauses", name := "hasBody", desc := "(I)Z" } : Jvm.MethodName)) ∈ tblG := rn_5 (List.mem_of_getElem? (i := 84) rfl) rfl
theorem wd_1045 : (Jvm.Cond.code ({ cls := "StrataBase$Clauses", name := "hasBody", desc := "(I)Z" } : Jvm.MethodName) prog_2_method_9_code (2 : Nat) (Option.some Jvm.ClassFile.FieldType.boolean)) ∈ tblG := rn_5 (List.mem_of_getElem? (i := 85) rfl) rfl
theorem wd_1046 : (Jvm.Cond.methodLink "StrataBase$Join" (103 : Nat) ({ cls := "StrataBase$Clauses", name := "keyOf", desc := "(I[I)J" } : Jvm.MethodName)) ∈ tblG := rn_5 (List.mem_of_getElem? (i := 86) rfl) rfl
theorem wd_1047 : (Jvm.Cond.instanceMethod ({ cls := "StrataBase$Clauses", name := "keyOf", desc := "(I[I)J" } : Jvm.MethodName)) ∈ tblG := rn_5 (List.mem_of_getElem? (i := 87) rfl) rfl
theorem wd_1048 : (Jvm.Cond.selects "StrataBase$Clauses" ({ cls := "StrataBase$Clauses", name := "keyOf", desc := "(I[I)J" } : Jvm.MethodName) ({ cls := "StrataBase$Clauses", name := "keyOf", desc := "(I[I)J" } : Jvm.MethodName)) ∈ tblG := rn_5 (List.mem_of_getElem? (i := 88) rfl) rfl
theorem wd_1049 : (Jvm.Cond.code ({ cls := "StrataBase$Clauses", name := "keyOf", desc := "(I[I)J" } : Jvm.MethodName) prog_2_method_10_code (9 : Nat) (Option.some Jvm.ClassFile.FieldType.long)) ∈ tblG := rn_5 (List.mem_of_getElem? (i := 89) rfl) rfl
theorem wd_1050 : (Jvm.Cond.methodLink "StrataBase$Clauses" (44 : Nat) ({ cls := "StrataBase$Clauses", name := "term", desc := "(II)I" } : Jvm.MethodName)) ∈ tblG := rn_5 (List.mem_of_getElem? (i := 90) rfl) rfl
theorem wd_1051 : (Jvm.Cond.methodLink "StrataBase$Clauses" (48 : Nat) ({ cls := "StrataBase$Facts", name := "shiftOf", desc := "(I)I" } : Jvm.MethodName)) ∈ tblG := rn_5 (List.mem_of_getElem? (i := 91) rfl) rfl
theorem wd_1052 : (Jvm.Cond.static ({ cls := "StrataBase$Facts", name := "shiftOf", desc := "(I)I" } : Jvm.MethodName)) ∈ tblG := rn_5 (List.mem_of_getElem? (i := 92) rfl) rfl
theorem wd_1053 : (Jvm.Cond.code ({ cls := "StrataBase$Facts", name := "shiftOf", desc := "(I)I" } : Jvm.MethodName) prog_4_method_2_code (1 : Nat) (Option.some Jvm.ClassFile.FieldType.int)) ∈ tblG := rn_5 (List.mem_of_getElem? (i := 93) rfl) rfl
theorem wd_1054 : (Jvm.Cond.methodLink "StrataBase$Join" (107 : Nat) ({ cls := "StrataBase$Facts", name := "add", desc := "(IJI)V" } : Jvm.MethodName)) ∈ tblG := rn_5 (List.mem_of_getElem? (i := 94) rfl) rfl
theorem wd_1055 : (Jvm.Cond.instanceMethod ({ cls := "StrataBase$Facts", name := "add", desc := "(IJI)V" } : Jvm.MethodName)) ∈ tblG := rn_5 (List.mem_of_getElem? (i := 95) rfl) rfl
theorem wd_1056 : (Jvm.Cond.selects "StrataBase$Facts" ({ cls := "StrataBase$Facts", name := "add", desc := "(IJI)V" } : Jvm.MethodName) ({ cls := "StrataBase$Facts", name := "add", desc := "(IJI)V" } : Jvm.MethodName)) ∈ tblG := rn_5 (List.mem_of_getElem? (i := 96) rfl) rfl
theorem wd_1057 : (Jvm.Cond.code ({ cls := "StrataBase$Facts", name := "add", desc := "(IJI)V" } : Jvm.MethodName) prog_4_method_7_code (6 : Nat) (Option.none : Option Jvm.ClassFile.FieldType)) ∈ tblG := rn_5 (List.mem_of_getElem? (i := 97) rfl) rfl
theorem wd_1058 : (Jvm.Cond.methodLink "StrataBase$Facts" (66 : Nat) ({ cls := "StrataBase$Facts", name := "slotOf", desc := "(IJ)I" } : Jvm.MethodName)) ∈ tblG := rn_5 (List.mem_of_getElem? (i := 98) rfl) rfl
theorem wd_1060 : (Jvm.Cond.instanceMethod ({ cls := "StrataBase$Facts", name := "slotOf", desc := "(IJ)I" } : Jvm.MethodName)) ∈ tblG := rn_5 (List.mem_of_getElem? (i := 100) rfl) rfl
theorem wd_1061 : (Jvm.Cond.code ({ cls := "StrataBase$Facts", name := "slotOf", desc := "(IJ)I" } : Jvm.MethodName) prog_4_method_14_code (9 : Nat) (Option.some Jvm.ClassFile.FieldType.int)) ∈ tblG := rn_5 (List.mem_of_getElem? (i := 101) rfl) rfl
theorem wd_1062 : (Jvm.Cond.constantLong "StrataBase$Facts" (76 : Nat) (-7046029254386353131 : Int64)) ∈ tblG := rn_5 (List.mem_of_getElem? (i := 102) rfl) rfl
theorem wd_1063 : (Jvm.Cond.constantLong "StrataBase$Facts" (78 : Nat) (89068084525962488 : Int64)) ∈ tblG := rn_5 (List.mem_of_getElem? (i := 103) rfl) rfl
theorem wd_1064 : (Jvm.Cond.methodLink "StrataBase$Facts" (70 : Nat) ({ cls := "java/lang/Math", name := "max", desc := "(II)I" } : Jvm.MethodName)) ∈ tblG := rn_5 (List.mem_of_getElem? (i := 104) rfl) rfl
theorem wd_1065 : (Jvm.Cond.methodLink "StrataBase$Join" (81 : Nat) ({ cls := "StrataBase$Facts", name := "mark", desc := "()V" } : Jvm.MethodName)) ∈ tblG := rn_5 (List.mem_of_getElem? (i := 105) rfl) rfl
theorem wd_1066 : (Jvm.Cond.instanceMethod ({ cls := "StrataBase$Facts", name := "mark", desc := "()V" } : Jvm.MethodName)) ∈ tblG := rn_5 (List.mem_of_getElem? (i := 106) rfl) rfl
theorem wd_1067 : (Jvm.Cond.selects "StrataBase$Facts" ({ cls := "StrataBase$Facts", name := "mark", desc := "()V" } : Jvm.MethodName) ({ cls := "StrataBase$Facts", name := "mark", desc := "()V" } : Jvm.MethodName)) ∈ tblG := rn_5 (List.mem_of_getElem? (i := 107) rfl) rfl
theorem wd_1068 : (Jvm.Cond.code ({ cls := "StrataBase$Facts", name := "mark", desc := "()V" } : Jvm.MethodName) prog_4_method_8_code (2 : Nat) (Option.none : Option Jvm.ClassFile.FieldType)) ∈ tblG := rn_5 (List.mem_of_getElem? (i := 108) rfl) rfl
theorem wd_1069 : (Jvm.Cond.methodLink "StrataBase$Join" (88 : Nat) ({ cls := "StrataBase$Join", name := "startsWork", desc := "(LStrataBase$Program;II)Z" } : Jvm.MethodName)) ∈ tblG := rn_5 (List.mem_of_getElem? (i := 109) rfl) rfl
theorem wd_1071 : (Jvm.Cond.instanceMethod ({ cls := "StrataBase$Join", name := "startsWork", desc := "(LStrataBase$Program;II)Z" } : Jvm.MethodName)) ∈ tblG := rn_5 (List.mem_of_getElem? (i := 111) rfl) rfl
theorem wd_1072 : (Jvm.Cond.code ({ cls := "StrataBase$Join", name := "startsWork", desc := "(LStrataBase$Program;II)Z" } : Jvm.MethodName) prog_6_method_6_code (5 : Nat) (Option.some Jvm.ClassFile.FieldType.boolean)) ∈ tblG := rn_5 (List.mem_of_getElem? (i := 112) rfl) rfl
theorem wd_1073 : (Jvm.Cond.methodLink "StrataBase$Join" (117 : Nat) ({ cls := "StrataBase$Facts", name := "hasFresh", desc := "(I)Z" } : Jvm.MethodName)) ∈ tblG := rn_5 (List.mem_of_getElem? (i := 113) rfl) rfl
theorem wd_1074 : (Jvm.Cond.instanceMethod ({ cls := "StrataBase$Facts", name := "hasFresh", desc := "(I)Z" } : Jvm.MethodName)) ∈ tblG := rn_5 (List.mem_of_getElem? (i := 114) rfl) rfl
theorem wd_1075 : (Jvm.Cond.selects "StrataBase$Facts" ({ cls := "StrataBase$Facts", name := "hasFresh", desc := "(I)Z" } : Jvm.MethodName) ({ cls := "StrataBase$Facts", name := "hasFresh", desc := "(I)Z" } : Jvm.MethodName)) ∈ tblG := rn_5 (List.mem_of_getElem? (i := 115) rfl) rfl
theorem wd_1076 : (Jvm.Cond.code ({ cls := "StrataBase$Facts", name := "hasFresh", desc := "(I)Z" } : Jvm.MethodName) prog_4_method_9_code (2 : Nat) (Option.some Jvm.ClassFile.FieldType.boolean)) ∈ tblG := rn_5 (List.mem_of_getElem? (i := 116) rfl) rfl
theorem wd_1077 : (Jvm.Cond.methodLink "StrataBase$Join" (62 : Nat) ({ cls := "StrataBase$Join", name := "work", desc := "(III)V" } : Jvm.MethodName)) ∈ tblG := rn_5 (List.mem_of_getElem? (i := 117) rfl) rfl
theorem wd_1079 : (Jvm.Cond.instanceMethod ({ cls := "StrataBase$Join", name := "work", desc := "(III)V" } : Jvm.MethodName)) ∈ tblG := rn_5 (List.mem_of_getElem? (i := 119) rfl) rfl
theorem wd_1080 : (Jvm.Cond.code ({ cls := "StrataBase$Join", name := "work", desc := "(III)V" } : Jvm.MethodName) prog_6_method_7_code (4 : Nat) (Option.none : Option Jvm.ClassFile.FieldType)) ∈ tblG := rn_5 (List.mem_of_getElem? (i := 120) rfl) rfl
theorem wd_1081 : (Jvm.Cond.methodLink "StrataBase$Join" (127 : Nat) ({ cls := "StrataBase$Join", name := "lacksFacts", desc := "(II)Z" } : Jvm.MethodName)) ∈ tblG := rn_5 (List.mem_of_getElem? (i := 121) rfl) rfl
theorem wd_1083 : (Jvm.Cond.instanceMethod ({ cls := "StrataBase$Join", name := "lacksFacts", desc := "(II)Z" } : Jvm.MethodName)) ∈ tblG := rn_5 (List.mem_of_getElem? (i := 123) rfl) rfl
theorem wd_1084 : (Jvm.Cond.code ({ cls := "StrataBase$Join", name := "lacksFacts", desc := "(II)Z" } : Jvm.MethodName) prog_6_method_8_code (5 : Nat) (Option.some Jvm.ClassFile.FieldType.boolean)) ∈ tblG := rn_5 (List.mem_of_getElem? (i := 124) rfl) rfl
theorem wd_1085 : (Jvm.Cond.methodLink "StrataBase$Join" (140 : Nat) ({ cls := "StrataBase$Facts", name := "isEmpty", desc := "(I)Z" } : Jvm.MethodName)) ∈ tblG := rn_5 (List.mem_of_getElem? (i := 125) rfl) rfl
theorem wd_1086 : (Jvm.Cond.instanceMethod ({ cls := "StrataBase$Facts", name := "isEmpty", desc := "(I)Z" } : Jvm.MethodName)) ∈ tblG := rn_5 (List.mem_of_getElem? (i := 126) rfl) rfl
theorem wd_1087 : (Jvm.Cond.selects "StrataBase$Facts" ({ cls := "StrataBase$Facts", name := "isEmpty", desc := "(I)Z" } : Jvm.MethodName) ({ cls := "StrataBase$Facts", name := "isEmpty", desc := "(I)Z" } : Jvm.MethodName)) ∈ tblG := rn_5 (List.mem_of_getElem? (i := 127) rfl) rfl
theorem wd_1088 : (Jvm.Cond.code ({ cls := "StrataBase$Facts", name := "isEmpty", desc := "(I)Z" } : Jvm.MethodName) prog_4_method_10_code (2 : Nat) (Option.some Jvm.ClassFile.FieldType.boolean)) ∈ tblG := rn_5 (List.mem_of_getElem? (i := 128) rfl) rfl
theorem wd_1089 : (Jvm.Cond.methodLink "StrataBase$Join" (131 : Nat) ({ cls := "StrataBase$Join", name := "arrange", desc := "(III)V" } : Jvm.MethodName)) ∈ tblG := rn_5 (List.mem_of_getElem? (i := 129) rfl) rfl
theorem wd_1091 : (Jvm.Cond.instanceMethod ({ cls := "StrataBase$Join", name := "arrange", desc := "(III)V" } : Jvm.MethodName)) ∈ tblG := rn_5 (List.mem_of_getElem? (i := 131) rfl) rfl
theorem wd_1092 : (Jvm.Cond.code ({ cls := "StrataBase$Join", name := "arrange", desc := "(III)V" } : Jvm.MethodName) prog_6_method_9_code (10 : Nat) (Option.none : Option Jvm.ClassFile.FieldType)) ∈ tblG := rn_5 (List.mem_of_getElem? (i := 132) rfl) rfl
theorem wd_1093 : (Jvm.Cond.methodLink "StrataBase$Join" (146 : Nat) ({ cls := "StrataBase$Join", name := "nextLiteral", desc := "(III)I" } : Jvm.MethodName)) ∈ tblG := rn_5 (List.mem_of_getElem? (i := 133) rfl) rfl
theorem wd_1095 : (Jvm.Cond.instanceMethod ({ cls := "StrataBase$Join", name := "nextLiteral", desc := "(III)I" } : Jvm.MethodName)) ∈ tblG := rn_5 (List.mem_of_getElem? (i := 135) rfl) rfl
theorem wd_1096 : (Jvm.Cond.code ({ cls := "StrataBase$Join", name := "nextLiteral", desc := "(III)I" } : Jvm.MethodName) prog_6_method_10_code (8 : Nat) (Option.some Jvm.ClassFile.FieldType.int)) ∈ tblG := rn_5 (List.mem_of_getElem? (i := 136) rfl) rfl
theorem wd_1097 : (Jvm.Cond.constant "StrataBase$Join" (162 : Nat) (536870912 : Int32)) ∈ tblG := rn_5 (List.mem_of_getElem? (i := 137) rfl) rfl
theorem wd_1098 : (Jvm.Cond.methodLink "StrataBase$Join" (163 : Nat) ({ cls := "StrataBase$Join", name := "costOf", desc := "(II)I" } : Jvm.MethodName)) ∈ tblG := rn_5 (List.mem_of_getElem? (i := 138) rfl) rfl
theorem wd_1100 : (Jvm.Cond.instanceMethod ({ cls := "StrataBase$Join", name := "costOf", desc := "(II)I" } : Jvm.MethodName)) ∈ tblG := rn_5 (List.mem_of_getElem? (i := 140) rfl) rfl
theorem wd_1101 : (Jvm.Cond.code ({ cls := "StrataBase$Join", name := "costOf", desc := "(II)I" } : Jvm.MethodName) prog_6_method_11_code (7 : Nat) (Option.some Jvm.ClassFile.FieldType.int)) ∈ tblG := rn_5 (List.mem_of_getElem? (i := 141) rfl) rfl
theorem wd_1102 : (Jvm.Cond.methodLink "StrataBase$Join" (170 : Nat) ({ cls := "StrataBase$Clauses", name := "term", desc := "(II)I" } : Jvm.MethodName)) ∈ tblG := rn_5 (List.mem_of_getElem? (i := 142) rfl) rfl
theorem wd_1103 : (Jvm.Cond.constant "StrataBase$Join" (176 : Nat) (268435456 : Int32)) ∈ tblG := rn_5 (List.mem_of_getElem? (i := 143) rfl) rfl
theorem wd_1104 : (Jvm.Cond.methodLink "StrataBase$Join" (134 : Nat) ({ cls := "StrataBase$Join", name := "prepare", desc := "()V" } : Jvm.MethodName)) ∈ tblG := rn_5 (List.mem_of_getElem? (i := 144) rfl) rfl
theorem wd_1106 : (Jvm.Cond.instanceMethod ({ cls := "StrataBase$Join", name := "prepare", desc := "()V" } : Jvm.MethodName)) ∈ tblG := rn_5 (List.mem_of_getElem? (i := 146) rfl) rfl
theorem wd_1107 : (Jvm.Cond.code ({ cls := "StrataBase$Join", name := "prepare", desc := "()V" } : Jvm.MethodName) prog_6_method_12_code (5 : Nat) (Option.none : Option Jvm.ClassFile.FieldType)) ∈ tblG := rn_5 (List.mem_of_getElem? (i := 147) rfl) rfl
theorem wd_1108 : (Jvm.Cond.methodLink "StrataBase$Join" (180 : Nat) ({ cls := "StrataBase$Step", name := "setShape", desc := "(LStrataBase$Clauses;)V" } : Jvm.MethodName)) ∈ tblG := rn_5 (List.mem_of_getElem? (i := 148) rfl) rfl
theorem wd_1109 : (Jvm.Cond.instanceMethod ({ cls := "StrataBase$Step", name := "setShape", desc := "(LStrataBase$Clauses;)V" } : Jvm.MethodName)) ∈ tblG := rn_5 (List.mem_of_getElem? (i := 149) rfl) rfl
theorem wd_1110 : (Jvm.Cond.selects "StrataBase$Step" ({ cls := "StrataBase$Step", name := "setShape", desc := "(LStrataBase$Clauses;)V" } : Jvm.MethodName) ({ cls := "StrataBase$Step", name := "setShape", desc := "(LStrataBase$Clauses;)V" } : Jvm.MethodName)) ∈ tblG := rn_5 (List.mem_of_getElem? (i := 150) rfl) rfl
theorem wd_1111 : (Jvm.Cond.code ({ cls := "StrataBase$Step", name := "setShape", desc := "(LStrataBase$Clauses;)V" } : Jvm.MethodName) prog_11_method_2_code (4 : Nat) (Option.none : Option Jvm.ClassFile.FieldType)) ∈ tblG := rn_5 (List.mem_of_getElem? (i := 151) rfl) rfl
theorem wd_1112 : (Jvm.Cond.methodLink "StrataBase$Step" (33 : Nat) ({ cls := "java/util/Arrays", name := "fill", desc := "([II)V" } : Jvm.MethodName)) ∈ tblG := rn_5 (List.mem_of_getElem? (i := 152) rfl) rfl
theorem wd_1113 : (Jvm.Cond.methodLink "StrataBase$Step" (49 : Nat) ({ cls := "StrataBase$Step", name := "givePositions", desc := "(LStrataBase$Clauses;II)V" } : Jvm.MethodName)) ∈ tblG := rn_5 (List.mem_of_getElem? (i := 153) rfl) rfl
theorem wd_1115 : (Jvm.Cond.instanceMethod ({ cls := "StrataBase$Step", name := "givePositions", desc := "(LStrataBase$Clauses;II)V" } : Jvm.MethodName)) ∈ tblG := rn_5 (List.mem_of_getElem? (i := 155) rfl) rfl
theorem wd_1116 : (Jvm.Cond.code ({ cls := "StrataBase$Step", name := "givePositions", desc := "(LStrataBase$Clauses;II)V" } : Jvm.MethodName) prog_11_method_7_code (6 : Nat) (Option.none : Option Jvm.ClassFile.FieldType)) ∈ tblG := rn_5 (List.mem_of_getElem? (i := 156) rfl) rfl
theorem wd_1117 : (Jvm.Cond.methodLink "StrataBase$Step" (95 : Nat) ({ cls := "StrataBase$Clauses", name := "term", desc := "(II)I" } : Jvm.MethodName)) ∈ tblG := rn_5 (List.mem_of_getElem? (i := 157) rfl) rfl
theorem wd_1118 : (Jvm.Cond.methodLink "StrataBase$Step" (99 : Nat) ({ cls := "StrataBase$Step", name := "firstColumnOf", desc := "(LStrataBase$Clauses;I)I" } : Jvm.MethodName)) ∈ tblG := rn_5 (List.mem_of_getElem? (i := 158) rfl) rfl
theorem wd_1120 : (Jvm.Cond.instanceMethod ({ cls := "StrataBase$Step", name := "firstColumnOf", desc := "(LStrataBase$Clauses;I)I" } : Jvm.MethodName)) ∈ tblG := rn_5 (List.mem_of_getElem? (i := 160) rfl) rfl
theorem wd_1121 : (Jvm.Cond.code ({ cls := "StrataBase$Step", name := "firstColumnOf", desc := "(LStrataBase$Clauses;I)I" } : Jvm.MethodName) prog_11_method_9_code (4 : Nat) (Option.some Jvm.ClassFile.FieldType.int)) ∈ tblG := rn_5 (List.mem_of_getElem? (i := 161) rfl) rfl
theorem wd_1122 : (Jvm.Cond.methodLink "StrataBase$Step" (68 : Nat) ({ cls := "StrataBase$Step", name := "setOtherRole", desc := "(LStrataBase$Clauses;I)V" } : Jvm.MethodName)) ∈ tblG := rn_5 (List.mem_of_getElem? (i := 162) rfl) rfl
theorem wd_1124 : (Jvm.Cond.instanceMethod ({ cls := "StrataBase$Step", name := "setOtherRole", desc := "(LStrataBase$Clauses;I)V" } : Jvm.MethodName)) ∈ tblG := rn_5 (List.mem_of_getElem? (i := 164) rfl) rfl
theorem wd_1125 : (Jvm.Cond.code ({ cls := "StrataBase$Step", name := "setOtherRole", desc := "(LStrataBase$Clauses;I)V" } : Jvm.MethodName) prog_11_method_8_code (5 : Nat) (Option.none : Option Jvm.ClassFile.FieldType)) ∈ tblG := rn_5 (List.mem_of_getElem? (i := 165) rfl) rfl
theorem wd_1126 : (Jvm.Cond.methodLink "StrataBase$Step" (83 : Nat) ({ cls := "StrataBase$Facts", name := "shiftOf", desc := "(I)I" } : Jvm.MethodName)) ∈ tblG := rn_5 (List.mem_of_getElem? (i := 166) rfl) rfl
theorem wd_1127 : (Jvm.Cond.methodLink "StrataBase$Step" (72 : Nat) ({ cls := "StrataBase$Step", name := "setIndex", desc := "(I)V" } : Jvm.MethodName)) ∈ tblG := rn_5 (List.mem_of_getElem? (i := 167) rfl) rfl
theorem wd_1129 : (Jvm.Cond.instanceMethod ({ cls := "StrataBase$Step", name := "setIndex", desc := "(I)V" } : Jvm.MethodName)) ∈ tblG := rn_5 (List.mem_of_getElem? (i := 169) rfl) rfl
theorem wd_1130 : (Jvm.Cond.code ({ cls := "StrataBase$Step", name := "setIndex", desc := "(I)V" } : Jvm.MethodName) prog_11_method_3_code (3 : Nat) (Option.none : Option Jvm.ClassFile.FieldType)) ∈ tblG := rn_5 (List.mem_of_getElem? (i := 170) rfl) rfl
theorem wd_1131 : (Jvm.Cond.methodLink "StrataBase$Join" (187 : Nat) ({ cls := "StrataBase$Indexes", name := "makeRoom", desc := "(I)V" } : Jvm.MethodName)) ∈ tblG := rn_5 (List.mem_of_getElem? (i := 171) rfl) rfl
theorem wd_1132 : (Jvm.Cond.instanceMethod ({ cls := "StrataBase$Indexes", name := "makeRoom", desc := "(I)V" } : Jvm.MethodName)) ∈ tblG := rn_5 (List.mem_of_getElem? (i := 172) rfl) rfl
theorem wd_1133 : (Jvm.Cond.selects "StrataBase$Indexes" ({ cls := "StrataBase$Indexes", name := "makeRoom", desc := "(I)V" } : Jvm.MethodName) ({ cls := "StrataBase$Indexes", name := "makeRoom", desc := "(I)V" } : Jvm.MethodName)) ∈ tblG := rn_5 (List.mem_of_getElem? (i := 173) rfl) rfl
theorem wd_1134 : (Jvm.Cond.code ({ cls := "StrataBase$Indexes", name := "makeRoom", desc := "(I)V" } : Jvm.MethodName) prog_5_method_3_code (2 : Nat) (Option.none : Option Jvm.ClassFile.FieldType)) ∈ tblG := rn_5 (List.mem_of_getElem? (i := 174) rfl) rfl
theorem wd_1135 : (Jvm.Cond.methodLink "StrataBase$Indexes" (43 : Nat) ({ cls := "StrataBase$Indexes", name := "clear", desc := "()V" } : Jvm.MethodName)) ∈ tblG := rn_5 (List.mem_of_getElem? (i := 175) rfl) rfl
theorem wd_1136 : (Jvm.Cond.methodLink "StrataBase$Indexes" (46 : Nat) ({ cls := "java/lang/Math", name := "max", desc := "(II)I" } : Jvm.MethodName)) ∈ tblG := rn_5 (List.mem_of_getElem? (i := 176) rfl) rfl
theorem wd_1137 : (Jvm.Cond.methodLink "StrataBase$Join" (191 : Nat) ({ cls := "StrataBase$Indexes", name := "provide", desc := "(LStrataBase$Step;LStrataBase$Facts;)V" } : Jvm.MethodName)) ∈ tblG := rn_5 (List.mem_of_getElem? (i := 177) rfl) rfl
theorem wd_1138 : (Jvm.Cond.instanceMethod ({ cls := "StrataBase$Indexes", name := "provide", desc := "(LStrataBase$Step;LStrataBase$Facts;)V" } : Jvm.MethodName)) ∈ tblG := rn_5 (List.mem_of_getElem? (i := 178) rfl) rfl
theorem wd_1139 : (Jvm.Cond.selects "StrataBase$Indexes" ({ cls := "StrataBase$Indexes", name := "provide", desc := "(LStrataBase$Step;LStrataBase$Facts;)V" } : Jvm.MethodName) ({ cls := "StrataBase$Indexes", name := "provide", desc := "(LStrataBase$Step;LStrataBase$Facts;)V" } : Jvm.MethodName)) ∈ tblG := rn_5 (List.mem_of_getElem? (i := 179) rfl) rfl
theorem wd_1140 : (Jvm.Cond.code ({ cls := "StrataBase$Indexes", name := "provide", desc := "(LStrataBase$Step;LStrataBase$Facts;)V" } : Jvm.MethodName) prog_5_method_4_code (6 : Nat) (Option.none : Option Jvm.ClassFile.FieldType)) ∈ tblG := rn_5 (List.mem_of_getElem? (i := 180) rfl) rfl
theorem wd_1141 : (Jvm.Cond.methodLink "StrataBase$Indexes" (61 : Nat) ({ cls := "StrataBase$Facts", name := "firstOf", desc := "(IZ)I" } : Jvm.MethodName)) ∈ tblG := rn_5 (List.mem_of_getElem? (i := 181) rfl) rfl
theorem wd_1142 : (Jvm.Cond.instanceMethod ({ cls := "StrataBase$Facts", name := "firstOf", desc := "(IZ)I" } : Jvm.MethodName)) ∈ tblG := rn_5 (List.mem_of_getElem? (i := 182) rfl) rfl
theorem wd_1143 : (Jvm.Cond.selects "StrataBase$Facts" ({ cls := "StrataBase$Facts", name := "firstOf", desc := "(IZ)I" } : Jvm.MethodName) ({ cls := "StrataBase$Facts", name := "firstOf", desc := "(IZ)I" } : Jvm.MethodName)) ∈ tblG := rn_5 (List.mem_of_getElem? (i := 183) rfl) rfl
theorem wd_1144 : (Jvm.Cond.code ({ cls := "StrataBase$Facts", name := "firstOf", desc := "(IZ)I" } : Jvm.MethodName) prog_4_method_11_code (4 : Nat) (Option.some Jvm.ClassFile.FieldType.int)) ∈ tblG := rn_5 (List.mem_of_getElem? (i := 184) rfl) rfl
theorem wd_1145 : (Jvm.Cond.methodLink "StrataBase$Indexes" (67 : Nat) ({ cls := "StrataBase$Facts", name := "lastOf", desc := "(I)I" } : Jvm.MethodName)) ∈ tblG := rn_5 (List.mem_of_getElem? (i := 185) rfl) rfl
theorem wd_1146 : (Jvm.Cond.instanceMethod ({ cls := "StrataBase$Facts", name := "lastOf", desc := "(I)I" } : Jvm.MethodName)) ∈ tblG := rn_5 (List.mem_of_getElem? (i := 186) rfl) rfl
theorem wd_1147 : (Jvm.Cond.selects "StrataBase$Facts" ({ cls := "StrataBase$Facts", name := "lastOf", desc := "(I)I" } : Jvm.MethodName) ({ cls := "StrataBase$Facts", name := "lastOf", desc := "(I)I" } : Jvm.MethodName)) ∈ tblG := rn_5 (List.mem_of_getElem? (i := 187) rfl) rfl
theorem wd_1148 : (Jvm.Cond.code ({ cls := "StrataBase$Facts", name := "lastOf", desc := "(I)I" } : Jvm.MethodName) prog_4_method_12_code (2 : Nat) (Option.some Jvm.ClassFile.FieldType.int)) ∈ tblG := rn_5 (List.mem_of_getElem? (i := 188) rfl) rfl
theorem wd_1149 : (Jvm.Cond.methodLink "StrataBase$Indexes" (77 : Nat) ({ cls := "StrataBase$Indexes", name := "collect", desc := "(LStrataBase$Step;LStrataBase$Facts;II)V" } : Jvm.MethodName)) ∈ tblG := rn_5 (List.mem_of_getElem? (i := 189) rfl) rfl
theorem wd_1151 : (Jvm.Cond.instanceMethod ({ cls := "StrataBase$Indexes", name := "collect", desc := "(LStrataBase$Step;LStrataBase$Facts;II)V" } : Jvm.MethodName)) ∈ tblG := rn_5 (List.mem_of_getElem? (i := 191) rfl) rfl
theorem wd_1152 : (Jvm.Cond.code ({ cls := "StrataBase$Indexes", name := "collect", desc := "(LStrataBase$Step;LStrataBase$Facts;II)V" } : Jvm.MethodName) prog_5_method_7_code (11 : Nat) (Option.none : Option Jvm.ClassFile.FieldType)) ∈ tblG := rn_5 (List.mem_of_getElem? (i := 192) rfl) rfl
theorem wd_1153 : (Jvm.Cond.methodLink "StrataBase$Indexes" (90 : Nat) ({ cls := "StrataBase$Step", name := "project", desc := "(J)J" } : Jvm.MethodName)) ∈ tblG := rn_5 (List.mem_of_getElem? (i := 193) rfl) rfl
theorem wd_1154 : (Jvm.Cond.instanceMethod ({ cls := "StrataBase$Step", name := "project", desc := "(J)J" } : Jvm.MethodName)) ∈ tblG := rn_5 (List.mem_of_getElem? (i := 194) rfl) rfl
theorem wd_1155 : (Jvm.Cond.selects "StrataBase$Step" ({ cls := "StrataBase$Step", name := "project", desc := "(J)J" } : Jvm.MethodName) ({ cls := "StrataBase$Step", name := "project", desc := "(J)J" } : Jvm.MethodName)) ∈ tblG := rn_5 (List.mem_of_getElem? (i := 195) rfl) rfl
theorem wd_1156 : (Jvm.Cond.code ({ cls := "StrataBase$Step", name := "project", desc := "(J)J" } : Jvm.MethodName) prog_11_method_6_code (8 : Nat) (Option.some Jvm.ClassFile.FieldType.long)) ∈ tblG := rn_5 (List.mem_of_getElem? (i := 196) rfl) rfl
theorem wd_1157 : (Jvm.Cond.methodLink "StrataBase$Step" (89 : Nat) ({ cls := "StrataBase$Facts", name := "rankIn", desc := "(JI)I" } : Jvm.MethodName)) ∈ tblG := rn_5 (List.mem_of_getElem? (i := 197) rfl) rfl
theorem wd_1158 : (Jvm.Cond.static ({ cls := "StrataBase$Facts", name := "rankIn", desc := "(JI)I" } : Jvm.MethodName)) ∈ tblG := rn_5 (List.mem_of_getElem? (i := 198) rfl) rfl
theorem wd_1159 : (Jvm.Cond.code ({ cls := "StrataBase$Facts", name := "rankIn", desc := "(JI)I" } : Jvm.MethodName) prog_4_method_3_code (3 : Nat) (Option.some Jvm.ClassFile.FieldType.int)) ∈ tblG := rn_5 (List.mem_of_getElem? (i := 199) rfl) rfl
theorem wd_1160 : (Jvm.Cond.constantLong "StrataBase$Step" (93 : Nat) (-1 : Int64)) ∈ tblG := rn_5 (List.mem_of_getElem? (i := 200) rfl) rfl
theorem wd_1161 : (Jvm.Cond.constantLong "StrataBase$Indexes" (94 : Nat) (-1 : Int64)) ∈ tblG := rn_5 (List.mem_of_getElem? (i := 201) rfl) rfl
theorem wd_1162 : (Jvm.Cond.methodLink "StrataBase$Indexes" (96 : Nat) ({ cls := "StrataBase$Facts", name := "after", desc := "(I)I" } : Jvm.MethodName)) ∈ tblG := rn_5 (List.mem_of_getElem? (i := 202) rfl) rfl
theorem wd_1163 : (Jvm.Cond.instanceMethod ({ cls := "StrataBase$Facts", name := "after", desc := "(I)I" } : Jvm.MethodName)) ∈ tblG := rn_5 (List.mem_of_getElem? (i := 203) rfl) rfl
theorem wd_1164 : (Jvm.Cond.selects "StrataBase$Facts" ({ cls := "StrataBase$Facts", name := "after", desc := "(I)I" } : Jvm.MethodName) ({ cls := "StrataBase$Facts", name := "after", desc := "(I)I" } : Jvm.MethodName)) ∈ tblG := rn_5 (List.mem_of_getElem? (i := 204) rfl) rfl
theorem wd_1165 : (Jvm.Cond.code ({ cls := "StrataBase$Facts", name := "after", desc := "(I)I" } : Jvm.MethodName) prog_4_method_13_code (2 : Nat) (Option.some Jvm.ClassFile.FieldType.int)) ∈ tblG := rn_5 (List.mem_of_getElem? (i := 205) rfl) rfl
theorem wd_1166 : (Jvm.Cond.methodLink "StrataBase$Indexes" (102 : Nat) ({ cls := "StrataBase$Indexes", name := "sort", desc := "(I)V" } : Jvm.MethodName)) ∈ tblG := rn_5 (List.mem_of_getElem? (i := 206) rfl) rfl
theorem wd_1168 : (Jvm.Cond.instanceMethod ({ cls := "StrataBase$Indexes", name := "sort", desc := "(I)V" } : Jvm.MethodName)) ∈ tblG := rn_5 (List.mem_of_getElem? (i := 208) rfl) rfl
theorem wd_1169 : (Jvm.Cond.code ({ cls := "StrataBase$Indexes", name := "sort", desc := "(I)V" } : Jvm.MethodName) prog_5_method_8_code (10 : Nat) (Option.none : Option Jvm.ClassFile.FieldType)) ∈ tblG := rn_5 (List.mem_of_getElem? (i := 209) rfl) rfl
theorem wd_1170 : (Jvm.Cond.fieldLink "StrataBase$Indexes" (109 : Nat) "StrataBase$Indexes" "GAPS" "[I") ∈ tblG := rn_5 (List.mem_of_getElem? (i := 210) rfl) rfl
theorem wd_1172 : (Jvm.Cond.methodLink "StrataBase$Indexes" (106 : Nat) ({ cls := "StrataBase$Indexes", name := "dropEquals", desc := "(I)V" } : Jvm.MethodName)) ∈ tblG := rn_5 (List.mem_of_getElem? (i := 212) rfl) rfl
theorem wd_1174 : (Jvm.Cond.instanceMethod ({ cls := "StrataBase$Indexes", name := "dropEquals", desc := "(I)V" } : Jvm.MethodName)) ∈ tblG := rn_5 (List.mem_of_getElem? (i := 214) rfl) rfl
theorem wd_1175 : (Jvm.Cond.code ({ cls := "StrataBase$Indexes", name := "dropEquals", desc := "(I)V" } : Jvm.MethodName) prog_5_method_9_code (4 : Nat) (Option.none : Option Jvm.ClassFile.FieldType)) ∈ tblG := rn_5 (List.mem_of_getElem? (i := 215) rfl) rfl
theorem wd_1176 : (Jvm.Cond.methodLink "StrataBase$Join" (137 : Nat) ({ cls := "StrataBase$Join", name := "solve", desc := "(I)I" } : Jvm.MethodName)) ∈ tblG := rn_5 (List.mem_of_getElem? (i := 216) rfl) rfl
theorem wd_1178 : (Jvm.Cond.instanceMethod ({ cls := "StrataBase$Join", name := "solve", desc := "(I)I" } : Jvm.MethodName)) ∈ tblG := rn_5 (List.mem_of_getElem? (i := 218) rfl) rfl
theorem wd_1179 : (Jvm.Cond.code ({ cls := "StrataBase$Join", name := "solve", desc := "(I)I" } : Jvm.MethodName) prog_6_method_13_code (3 : Nat) (Option.some Jvm.ClassFile.FieldType.int)) ∈ tblG := rn_5 (List.mem_of_getElem? (i := 219) rfl) rfl
theorem wd_1180 : (Jvm.Cond.methodLink "StrataBase$Join" (195 : Nat) ({ cls := "StrataBase$Join", name := "holds", desc := "(I)Z" } : Jvm.MethodName)) ∈ tblG := rn_5 (List.mem_of_getElem? (i := 220) rfl) rfl
theorem wd_1182 : (Jvm.Cond.instanceMethod ({ cls := "StrataBase$Join", name := "holds", desc := "(I)Z" } : Jvm.MethodName)) ∈ tblG := rn_5 (List.mem_of_getElem? (i := 222) rfl) rfl
theorem wd_1183 : (Jvm.Cond.code ({ cls := "StrataBase$Join", name := "holds", desc := "(I)Z" } : Jvm.MethodName) prog_6_method_15_code (5 : Nat) (Option.some Jvm.ClassFile.FieldType.boolean)) ∈ tblG := rn_5 (List.mem_of_getElem? (i := 223) rfl) rfl
theorem wd_1184 : (Jvm.Cond.methodLink "StrataBase$Join" (235 : Nat) ({ cls := "StrataBase$Clauses", name := "compares", desc := "(I[I)Z" } : Jvm.MethodName)) ∈ tblG := rn_5 (List.mem_of_getElem? (i := 224) rfl) rfl
theorem wd_1185 : (Jvm.Cond.instanceMethod ({ cls := "StrataBase$Clauses", name := "compares", desc := "(I[I)Z" } : Jvm.MethodName)) ∈ tblG := rn_5 (List.mem_of_getElem? (i := 225) rfl) rfl
theorem wd_1186 : (Jvm.Cond.selects "StrataBase$Clauses" ({ cls := "StrataBase$Clauses", name := "compares", desc := "(I[I)Z" } : Jvm.MethodName) ({ cls := "StrataBase$Clauses", name := "compares", desc := "(I[I)Z" } : Jvm.MethodName)) ∈ tblG := rn_5 (List.mem_of_getElem? (i := 226) rfl) rfl
theorem wd_1187 : (Jvm.Cond.code ({ cls := "StrataBase$Clauses", name := "compares", desc := "(I[I)Z" } : Jvm.MethodName) prog_2_method_13_code (5 : Nat) (Option.some Jvm.ClassFile.FieldType.boolean)) ∈ tblG := rn_5 (List.mem_of_getElem? (i := 227) rfl) rfl
theorem wd_1188 : (Jvm.Cond.methodLink "StrataBase$Clauses" (54 : Nat) ({ cls := "StrataBase$Clauses", name := "orderCode", desc := "(II[I)I" } : Jvm.MethodName)) ∈ tblG := rn_5 (List.mem_of_getElem? (i := 228) rfl) rfl
theorem wd_1190 : (Jvm.Cond.instanceMethod ({ cls := "StrataBase$Clauses", name := "orderCode", desc := "(II[I)I" } : Jvm.MethodName)) ∈ tblG := rn_5 (List.mem_of_getElem? (i := 230) rfl) rfl
theorem wd_1191 : (Jvm.Cond.code ({ cls := "StrataBase$Clauses", name := "orderCode", desc := "(II[I)I" } : Jvm.MethodName) prog_2_method_11_code (5 : Nat) (Option.some Jvm.ClassFile.FieldType.int)) ∈ tblG := rn_5 (List.mem_of_getElem? (i := 231) rfl) rfl
theorem wd_1192 : (Jvm.Cond.methodLink "StrataBase$Join" (239 : Nat) ({ cls := "StrataBase$Facts", name := "isVisible", desc := "(IJ)Z" } : Jvm.MethodName)) ∈ tblG := rn_5 (List.mem_of_getElem? (i := 232) rfl) rfl
theorem wd_1193 : (Jvm.Cond.instanceMethod ({ cls := "StrataBase$Facts", name := "isVisible", desc := "(IJ)Z" } : Jvm.MethodName)) ∈ tblG := rn_5 (List.mem_of_getElem? (i := 233) rfl) rfl
theorem wd_1194 : (Jvm.Cond.selects "StrataBase$Facts" ({ cls := "StrataBase$Facts", name := "isVisible", desc := "(IJ)Z" } : Jvm.MethodName) ({ cls := "StrataBase$Facts", name := "isVisible", desc := "(IJ)Z" } : Jvm.MethodName)) ∈ tblG := rn_5 (List.mem_of_getElem? (i := 234) rfl) rfl
theorem wd_1195 : (Jvm.Cond.code ({ cls := "StrataBase$Facts", name := "isVisible", desc := "(IJ)Z" } : Jvm.MethodName) prog_4_method_6_code (5 : Nat) (Option.some Jvm.ClassFile.FieldType.boolean)) ∈ tblG := rn_5 (List.mem_of_getElem? (i := 235) rfl) rfl
theorem wd_1196 : (Jvm.Cond.methodLink "StrataBase$Join" (198 : Nat) ({ cls := "StrataBase$Join", name := "scan", desc := "(I)I" } : Jvm.MethodName)) ∈ tblG := rn_5 (List.mem_of_getElem? (i := 236) rfl) rfl
theorem wd_1198 : (Jvm.Cond.instanceMethod ({ cls := "StrataBase$Join", name := "scan", desc := "(I)I" } : Jvm.MethodName)) ∈ tblG := rn_5 (List.mem_of_getElem? (i := 238) rfl) rfl
theorem wd_1199 : (Jvm.Cond.code ({ cls := "StrataBase$Join", name := "scan", desc := "(I)I" } : Jvm.MethodName) prog_6_method_14_code (9 : Nat) (Option.some Jvm.ClassFile.FieldType.int)) ∈ tblG := rn_5 (List.mem_of_getElem? (i := 239) rfl) rfl
theorem wd_1200 : (Jvm.Cond.methodLink "StrataBase$Join" (204 : Nat) ({ cls := "StrataBase$Step", name := "soughtKey", desc := "([I)J" } : Jvm.MethodName)) ∈ tblG := rn_6 (List.mem_of_getElem? (i := 0) rfl) rfl
theorem wd_1201 : (Jvm.Cond.instanceMethod ({ cls := "StrataBase$Step", name := "soughtKey", desc := "([I)J" } : Jvm.MethodName)) ∈ tblG := rn_6 (List.mem_of_getElem? (i := 1) rfl) rfl
theorem wd_1202 : (Jvm.Cond.selects "StrataBase$Step" ({ cls := "StrataBase$Step", name := "soughtKey", desc := "([I)J" } : Jvm.MethodName) ({ cls := "StrataBase$Step", name := "soughtKey", desc := "([I)J" } : Jvm.MethodName)) ∈ tblG := rn_6 (List.mem_of_getElem? (i := 2) rfl) rfl
theorem wd_1203 : (Jvm.Cond.code ({ cls := "StrataBase$Step", name := "soughtKey", desc := "([I)J" } : Jvm.MethodName) prog_11_method_4_code (5 : Nat) (Option.some Jvm.ClassFile.FieldType.long)) ∈ tblG := rn_6 (List.mem_of_getElem? (i := 3) rfl) rfl
theorem wd_1204 : (Jvm.Cond.methodLink "StrataBase$Join" (220 : Nat) ({ cls := "StrataBase$Indexes", name := "seek", desc := "(IIJ)I" } : Jvm.MethodName)) ∈ tblG := rn_6 (List.mem_of_getElem? (i := 4) rfl) rfl
theorem wd_1205 : (Jvm.Cond.instanceMethod ({ cls := "StrataBase$Indexes", name := "seek", desc := "(IIJ)I" } : Jvm.MethodName)) ∈ tblG := rn_6 (List.mem_of_getElem? (i := 5) rfl) rfl
theorem wd_1206 : (Jvm.Cond.selects "StrataBase$Indexes" ({ cls := "StrataBase$Indexes", name := "seek", desc := "(IIJ)I" } : Jvm.MethodName) ({ cls := "StrataBase$Indexes", name := "seek", desc := "(IIJ)I" } : Jvm.MethodName)) ∈ tblG := rn_6 (List.mem_of_getElem? (i := 6) rfl) rfl
theorem wd_1207 : (Jvm.Cond.code ({ cls := "StrataBase$Indexes", name := "seek", desc := "(IIJ)I" } : Jvm.MethodName) prog_5_method_6_code (8 : Nat) (Option.some Jvm.ClassFile.FieldType.int)) ∈ tblG := rn_6 (List.mem_of_getElem? (i := 7) rfl) rfl
theorem wd_1208 : (Jvm.Cond.methodLink "StrataBase$Join" (224 : Nat) ({ cls := "StrataBase$Indexes", name := "at", desc := "(I)J" } : Jvm.MethodName)) ∈ tblG := rn_6 (List.mem_of_getElem? (i := 8) rfl) rfl
theorem wd_1209 : (Jvm.Cond.instanceMethod ({ cls := "StrataBase$Indexes", name := "at", desc := "(I)J" } : Jvm.MethodName)) ∈ tblG := rn_6 (List.mem_of_getElem? (i := 9) rfl) rfl
theorem wd_1210 : (Jvm.Cond.selects "StrataBase$Indexes" ({ cls := "StrataBase$Indexes", name := "at", desc := "(I)J" } : Jvm.MethodName) ({ cls := "StrataBase$Indexes", name := "at", desc := "(I)J" } : Jvm.MethodName)) ∈ tblG := rn_6 (List.mem_of_getElem? (i := 10) rfl) rfl
theorem wd_1211 : (Jvm.Cond.code ({ cls := "StrataBase$Indexes", name := "at", desc := "(I)J" } : Jvm.MethodName) prog_5_method_5_code (2 : Nat) (Option.some Jvm.ClassFile.FieldType.long)) ∈ tblG := rn_6 (List.mem_of_getElem? (i := 11) rfl) rfl
theorem wd_1212 : (Jvm.Cond.methodLink "StrataBase$Join" (228 : Nat) ({ cls := "StrataBase$Step", name := "give", desc := "(J[I)V" } : Jvm.MethodName)) ∈ tblG := rn_6 (List.mem_of_getElem? (i := 12) rfl) rfl
theorem wd_1213 : (Jvm.Cond.instanceMethod ({ cls := "StrataBase$Step", name := "give", desc := "(J[I)V" } : Jvm.MethodName)) ∈ tblG := rn_6 (List.mem_of_getElem? (i := 13) rfl) rfl
theorem wd_1214 : (Jvm.Cond.selects "StrataBase$Step" ({ cls := "StrataBase$Step", name := "give", desc := "(J[I)V" } : Jvm.MethodName) ({ cls := "StrataBase$Step", name := "give", desc := "(J[I)V" } : Jvm.MethodName)) ∈ tblG := rn_6 (List.mem_of_getElem? (i := 14) rfl) rfl
theorem wd_1215 : (Jvm.Cond.code ({ cls := "StrataBase$Step", name := "give", desc := "(J[I)V" } : Jvm.MethodName) prog_11_method_5_code (5 : Nat) (Option.none : Option Jvm.ClassFile.FieldType)) ∈ tblG := rn_6 (List.mem_of_getElem? (i := 15) rfl) rfl
theorem wd_1216 : (Jvm.Cond.methodLink "StrataBase$Join" (201 : Nat) ({ cls := "StrataBase$Join", name := "emit", desc := "()V" } : Jvm.MethodName)) ∈ tblG := rn_6 (List.mem_of_getElem? (i := 16) rfl) rfl
theorem wd_1218 : (Jvm.Cond.instanceMethod ({ cls := "StrataBase$Join", name := "emit", desc := "()V" } : Jvm.MethodName)) ∈ tblG := rn_6 (List.mem_of_getElem? (i := 18) rfl) rfl
theorem wd_1219 : (Jvm.Cond.code ({ cls := "StrataBase$Join", name := "emit", desc := "()V" } : Jvm.MethodName) prog_6_method_16_code (1 : Nat) (Option.none : Option Jvm.ClassFile.FieldType)) ∈ tblG := rn_6 (List.mem_of_getElem? (i := 19) rfl) rfl
theorem wd_1220 : (Jvm.Cond.methodLink "StrataBase$Join" (243 : Nat) ({ cls := "StrataBase$Rows", name := "add", desc := "([I)V" } : Jvm.MethodName)) ∈ tblG := rn_6 (List.mem_of_getElem? (i := 20) rfl) rfl
theorem wd_1221 : (Jvm.Cond.instanceMethod ({ cls := "StrataBase$Rows", name := "add", desc := "([I)V" } : Jvm.MethodName)) ∈ tblG := rn_6 (List.mem_of_getElem? (i := 21) rfl) rfl
theorem wd_1222 : (Jvm.Cond.selects "StrataBase$Rows" ({ cls := "StrataBase$Rows", name := "add", desc := "([I)V" } : Jvm.MethodName) ({ cls := "StrataBase$Rows", name := "add", desc := "([I)V" } : Jvm.MethodName)) ∈ tblG := rn_6 (List.mem_of_getElem? (i := 22) rfl) rfl
theorem wd_1223 : (Jvm.Cond.code ({ cls := "StrataBase$Rows", name := "add", desc := "([I)V" } : Jvm.MethodName) prog_10_method_6_code (2 : Nat) (Option.none : Option Jvm.ClassFile.FieldType)) ∈ tblG := rn_6 (List.mem_of_getElem? (i := 23) rfl) rfl
theorem wd_1224 : (Jvm.Cond.methodLink "StrataBase$Rows" (39 : Nat) ({ cls := "StrataBase$Rows", name := "keyOf", desc := "([II)J" } : Jvm.MethodName)) ∈ tblG := rn_6 (List.mem_of_getElem? (i := 24) rfl) rfl
theorem wd_1226 : (Jvm.Cond.instanceMethod ({ cls := "StrataBase$Rows", name := "keyOf", desc := "([II)J" } : Jvm.MethodName)) ∈ tblG := rn_6 (List.mem_of_getElem? (i := 26) rfl) rfl
theorem wd_1227 : (Jvm.Cond.code ({ cls := "StrataBase$Rows", name := "keyOf", desc := "([II)J" } : Jvm.MethodName) prog_10_method_10_code (6 : Nat) (Option.some Jvm.ClassFile.FieldType.long)) ∈ tblG := rn_6 (List.mem_of_getElem? (i := 27) rfl) rfl
theorem wd_1228 : (Jvm.Cond.methodLink "StrataBaseLaw" (80 : Nat) ({ cls := "StrataBaseLaw", name := "ask", desc := "(LStrataBase;[J)I" } : Jvm.MethodName)) ∈ tblG := rn_6 (List.mem_of_getElem? (i := 28) rfl) rfl
theorem wd_1229 : (Jvm.Cond.static ({ cls := "StrataBaseLaw", name := "ask", desc := "(LStrataBase;[J)I" } : Jvm.MethodName)) ∈ tblG := rn_6 (List.mem_of_getElem? (i := 29) rfl) rfl
theorem wd_1230 : (Jvm.Cond.codeWith ({ cls := "StrataBaseLaw", name := "ask", desc := "(LStrataBase;[J)I" } : Jvm.MethodName) method_6_code (3 : Nat) (Option.some Jvm.ClassFile.FieldType.int) [((0 : Nat), (8 : Nat), (11 : Nat), (28 : Nat)), ((0 : Nat), (8 : Nat), (14 : Nat), (13 : Nat))]) ∈ tblG := rn_6 (List.mem_of_getElem? (i := 30) rfl) rfl
theorem wd_1231 : (Jvm.Cond.classLink "StrataBaseLaw" (28 : Nat) "java/lang/IllegalStateException") ∈ tblG := rn_6 (List.mem_of_getElem? (i := 31) rfl) rfl
theorem wd_1232 : (Jvm.Cond.methodLink "StrataBaseLaw" (25 : Nat) ({ cls := "StrataBase", name := "ask", desc := "()I" } : Jvm.MethodName)) ∈ tblG := rn_6 (List.mem_of_getElem? (i := 32) rfl) rfl
theorem wd_1233 : (Jvm.Cond.instanceMethod ({ cls := "StrataBase", name := "ask", desc := "()I" } : Jvm.MethodName)) ∈ tblG := rn_6 (List.mem_of_getElem? (i := 33) rfl) rfl
theorem wd_1234 : (Jvm.Cond.selects "StrataBase" ({ cls := "StrataBase", name := "ask", desc := "()I" } : Jvm.MethodName) ({ cls := "StrataBase", name := "ask", desc := "()I" } : Jvm.MethodName)) ∈ tblG := rn_6 (List.mem_of_getElem? (i := 34) rfl) rfl
theorem wd_1235 : (Jvm.Cond.code ({ cls := "StrataBase", name := "ask", desc := "()I" } : Jvm.MethodName) prog_1_method_7_code (2 : Nat) (Option.some Jvm.ClassFile.FieldType.int)) ∈ tblG := rn_6 (List.mem_of_getElem? (i := 35) rfl) rfl
theorem wd_1236 : (Jvm.Cond.classLink "StrataBase" (131 : Nat) "java/lang/IllegalStateException") ∈ tblG := rn_6 (List.mem_of_getElem? (i := 36) rfl) rfl
theorem wd_1237 : (Jvm.Cond.instantiable "java/lang/IllegalStateException" (6 : Nat)) ∈ tblG := rn_6 (List.mem_of_getElem? (i := 37) rfl) rfl
theorem wd_1239 : (Jvm.Cond.selects "java/lang/IllegalStateException" ({ cls := "java/lang/Throwable", name := "fillInStackTrace", desc := "(I)Ljava/lang/Throwable;" } : Jvm.MethodName) ({ cls := "java/lang/Throwable", name := "fillInStackTrace", desc := "(I)Ljava/lang/Throwable;" } : Jvm.MethodName)) ∈ tblG := rn_6 (List.mem_of_getElem? (i := 39) rfl) rfl
theorem wd_1240 : (Jvm.Cond.lays "java/lang/IllegalStateException" "java/lang/Throwable" "cause" "Ljava/lang/Throwable;") ∈ tblG := rn_6 (List.mem_of_getElem? (i := 40) rfl) rfl
theorem wd_1241 : (Jvm.Cond.lays "java/lang/IllegalStateException" "java/lang/Throwable" "stackTrace" "[Ljava/lang/StackTraceElement;") ∈ tblG := rn_6 (List.mem_of_getElem? (i := 41) rfl) rfl
theorem wd_1242 : (Jvm.Cond.lays "java/lang/IllegalStateException" "java/lang/Throwable" "suppressedExceptions" "Ljava/util/List;") ∈ tblG := rn_6 (List.mem_of_getElem? (i := 42) rfl) rfl
theorem wd_1243 : (Jvm.Cond.lays "java/lang/IllegalStateException" "java/lang/Throwable" "detailMessage" "Ljava/lang/String;") ∈ tblG := rn_6 (List.mem_of_getElem? (i := 43) rfl) rfl
theorem wd_1244 : (Jvm.Cond.lays "java/lang/IllegalStateException" "java/lang/Throwable" "backtrace" "Ljava/lang/Object;") ∈ tblG := rn_6 (List.mem_of_getElem? (i := 44) rfl) rfl
theorem wd_1245 : (Jvm.Cond.methodLink "StrataBase" (133 : Nat) ({ cls := "java/lang/IllegalStateException", name := "<init>", desc := "()V" } : Jvm.MethodName)) ∈ tblG := rn_6 (List.mem_of_getElem? (i := 45) rfl) rfl
theorem wd_1246 : (Jvm.Cond.instanceMethod ({ cls := "java/lang/IllegalStateException", name := "<init>", desc := "()V" } : Jvm.MethodName)) ∈ tblG := rn_6 (List.mem_of_getElem? (i := 46) rfl) rfl
theorem wd_1247 : (Jvm.Cond.code ({ cls := "java/lang/IllegalStateException", name := "<init>", desc := "()V" } : Jvm.MethodName) prog_18_method_1_code (1 : Nat) (Option.none : Option Jvm.ClassFile.FieldType)) ∈ tblG := rn_6 (List.mem_of_getElem? (i := 47) rfl) rfl
theorem wd_1248 : (Jvm.Cond.methodLink "java/lang/IllegalStateException" (1 : Nat) ({ cls := "java/lang/RuntimeException", name := "<init>", desc := "()V" } : Jvm.MethodName)) ∈ tblG := rn_6 (List.mem_of_getElem? (i := 48) rfl) rfl
theorem wd_1249 : (Jvm.Cond.lays "java/lang/IllegalStateException" "java/lang/Throwable" "depth" "I") ∈ tblG := rn_6 (List.mem_of_getElem? (i := 49) rfl) rfl
theorem wd_1251 : (Jvm.Cond.methodLink "StrataBase" (147 : Nat) ({ cls := "StrataBase$Join", name := "answer", desc := "(LStrataBase$Clauses;LStrataBase$Rows;)V" } : Jvm.MethodName)) ∈ tblG := rn_6 (List.mem_of_getElem? (i := 51) rfl) rfl
theorem wd_1252 : (Jvm.Cond.instanceMethod ({ cls := "StrataBase$Join", name := "answer", desc := "(LStrataBase$Clauses;LStrataBase$Rows;)V" } : Jvm.MethodName)) ∈ tblG := rn_6 (List.mem_of_getElem? (i := 52) rfl) rfl
theorem wd_1253 : (Jvm.Cond.selects "StrataBase$Join" ({ cls := "StrataBase$Join", name := "answer", desc := "(LStrataBase$Clauses;LStrataBase$Rows;)V" } : Jvm.MethodName) ({ cls := "StrataBase$Join", name := "answer", desc := "(LStrataBase$Clauses;LStrataBase$Rows;)V" } : Jvm.MethodName)) ∈ tblG := rn_6 (List.mem_of_getElem? (i := 53) rfl) rfl
theorem wd_1254 : (Jvm.Cond.code ({ cls := "StrataBase$Join", name := "answer", desc := "(LStrataBase$Clauses;LStrataBase$Rows;)V" } : Jvm.MethodName) prog_6_method_3_code (3 : Nat) (Option.none : Option Jvm.ClassFile.FieldType)) ∈ tblG := rn_6 (List.mem_of_getElem? (i := 54) rfl) rfl
theorem wd_1255 : (Jvm.Cond.methodLink "StrataBase$Join" (50 : Nat) ({ cls := "StrataBase$Rows", name := "usedVariables", desc := "()I" } : Jvm.MethodName)) ∈ tblG := rn_6 (List.mem_of_getElem? (i := 55) rfl) rfl
theorem wd_1256 : (Jvm.Cond.instanceMethod ({ cls := "StrataBase$Rows", name := "usedVariables", desc := "()I" } : Jvm.MethodName)) ∈ tblG := rn_6 (List.mem_of_getElem? (i := 56) rfl) rfl
theorem wd_1257 : (Jvm.Cond.selects "StrataBase$Rows" ({ cls := "StrataBase$Rows", name := "usedVariables", desc := "()I" } : Jvm.MethodName) ({ cls := "StrataBase$Rows", name := "usedVariables", desc := "()I" } : Jvm.MethodName)) ∈ tblG := rn_6 (List.mem_of_getElem? (i := 57) rfl) rfl
theorem wd_1258 : (Jvm.Cond.code ({ cls := "StrataBase$Rows", name := "usedVariables", desc := "()I" } : Jvm.MethodName) prog_10_method_5_code (3 : Nat) (Option.some Jvm.ClassFile.FieldType.int)) ∈ tblG := rn_6 (List.mem_of_getElem? (i := 58) rfl) rfl
theorem wd_1259 : (Jvm.Cond.methodLink "StrataBase" (152 : Nat) ({ cls := "StrataBase$Rows", name := "sort", desc := "()V" } : Jvm.MethodName)) ∈ tblG := rn_6 (List.mem_of_getElem? (i := 59) rfl) rfl
theorem wd_1260 : (Jvm.Cond.instanceMethod ({ cls := "StrataBase$Rows", name := "sort", desc := "()V" } : Jvm.MethodName)) ∈ tblG := rn_6 (List.mem_of_getElem? (i := 60) rfl) rfl
theorem wd_1261 : (Jvm.Cond.selects "StrataBase$Rows" ({ cls := "StrataBase$Rows", name := "sort", desc := "()V" } : Jvm.MethodName) ({ cls := "StrataBase$Rows", name := "sort", desc := "()V" } : Jvm.MethodName)) ∈ tblG := rn_6 (List.mem_of_getElem? (i := 61) rfl) rfl
theorem wd_1262 : (Jvm.Cond.code ({ cls := "StrataBase$Rows", name := "sort", desc := "()V" } : Jvm.MethodName) prog_10_method_7_code (6 : Nat) (Option.none : Option Jvm.ClassFile.FieldType)) ∈ tblG := rn_6 (List.mem_of_getElem? (i := 62) rfl) rfl
theorem wd_1263 : (Jvm.Cond.fieldLink "StrataBase$Rows" (43 : Nat) "StrataBase$Rows" "GAPS" "[I") ∈ tblG := rn_6 (List.mem_of_getElem? (i := 63) rfl) rfl
theorem wd_1265 : (Jvm.Cond.methodLink "StrataBase$Rows" (46 : Nat) ({ cls := "StrataBase$Rows", name := "sink", desc := "(II)V" } : Jvm.MethodName)) ∈ tblG := rn_6 (List.mem_of_getElem? (i := 65) rfl) rfl
theorem wd_1267 : (Jvm.Cond.instanceMethod ({ cls := "StrataBase$Rows", name := "sink", desc := "(II)V" } : Jvm.MethodName)) ∈ tblG := rn_6 (List.mem_of_getElem? (i := 67) rfl) rfl
theorem wd_1268 : (Jvm.Cond.code ({ cls := "StrataBase$Rows", name := "sink", desc := "(II)V" } : Jvm.MethodName) prog_10_method_8_code (8 : Nat) (Option.none : Option Jvm.ClassFile.FieldType)) ∈ tblG := rn_6 (List.mem_of_getElem? (i := 68) rfl) rfl
theorem wd_1269 : (Jvm.Cond.methodLink "StrataBase$Rows" (50 : Nat) ({ cls := "StrataBase$Rows", name := "isAbove", desc := "(IJJ)Z" } : Jvm.MethodName)) ∈ tblG := rn_6 (List.mem_of_getElem? (i := 69) rfl) rfl
theorem wd_1271 : (Jvm.Cond.instanceMethod ({ cls := "StrataBase$Rows", name := "isAbove", desc := "(IJJ)Z" } : Jvm.MethodName)) ∈ tblG := rn_6 (List.mem_of_getElem? (i := 71) rfl) rfl
theorem wd_1272 : (Jvm.Cond.code ({ cls := "StrataBase$Rows", name := "isAbove", desc := "(IJJ)Z" } : Jvm.MethodName) prog_10_method_9_code (6 : Nat) (Option.some Jvm.ClassFile.FieldType.boolean)) ∈ tblG := rn_6 (List.mem_of_getElem? (i := 72) rfl) rfl
theorem wd_1273 : (Jvm.Cond.methodLink "StrataBaseLaw" (87 : Nat) ({ cls := "StrataBaseLaw", name := "isNumber", desc := "(LStrataBase;II[J)I" } : Jvm.MethodName)) ∈ tblG := rn_6 (List.mem_of_getElem? (i := 73) rfl) rfl
theorem wd_1274 : (Jvm.Cond.static ({ cls := "StrataBaseLaw", name := "isNumber", desc := "(LStrataBase;II[J)I" } : Jvm.MethodName)) ∈ tblG := rn_6 (List.mem_of_getElem? (i := 74) rfl) rfl
theorem wd_1275 : (Jvm.Cond.codeWith ({ cls := "StrataBaseLaw", name := "isNumber", desc := "(LStrataBase;II[J)I" } : Jvm.MethodName) method_7_code (5 : Nat) (Option.some Jvm.ClassFile.FieldType.int) [((0 : Nat), (17 : Nat), (20 : Nat), (34 : Nat))]) ∈ tblG := rn_6 (List.mem_of_getElem? (i := 75) rfl) rfl
theorem wd_1276 : (Jvm.Cond.classLink "StrataBaseLaw" (34 : Nat) "java/lang/IndexOutOfBoundsException") ∈ tblG := rn_6 (List.mem_of_getElem? (i := 76) rfl) rfl
theorem wd_1277 : (Jvm.Cond.methodLink "StrataBaseLaw" (30 : Nat) ({ cls := "StrataBase", name := "isNumber", desc := "(II)Z" } : Jvm.MethodName)) ∈ tblG := rn_6 (List.mem_of_getElem? (i := 77) rfl) rfl
theorem wd_1278 : (Jvm.Cond.instanceMethod ({ cls := "StrataBase", name := "isNumber", desc := "(II)Z" } : Jvm.MethodName)) ∈ tblG := rn_6 (List.mem_of_getElem? (i := 78) rfl) rfl
theorem wd_1279 : (Jvm.Cond.selects "StrataBase" ({ cls := "StrataBase", name := "isNumber", desc := "(II)Z" } : Jvm.MethodName) ({ cls := "StrataBase", name := "isNumber", desc := "(II)Z" } : Jvm.MethodName)) ∈ tblG := rn_6 (List.mem_of_getElem? (i := 79) rfl) rfl
theorem wd_1280 : (Jvm.Cond.code ({ cls := "StrataBase", name := "isNumber", desc := "(II)Z" } : Jvm.MethodName) prog_1_method_9_code (3 : Nat) (Option.some Jvm.ClassFile.FieldType.boolean)) ∈ tblG := rn_6 (List.mem_of_getElem? (i := 80) rfl) rfl
theorem wd_1281 : (Jvm.Cond.methodLink "StrataBase" (159 : Nat) ({ cls := "StrataBase$Rows", name := "has", desc := "(II)Z" } : Jvm.MethodName)) ∈ tblG := rn_6 (List.mem_of_getElem? (i := 81) rfl) rfl
theorem wd_1282 : (Jvm.Cond.instanceMethod ({ cls := "StrataBase$Rows", name := "has", desc := "(II)Z" } : Jvm.MethodName)) ∈ tblG := rn_6 (List.mem_of_getElem? (i := 82) rfl) rfl
theorem wd_1283 : (Jvm.Cond.selects "StrataBase$Rows" ({ cls := "StrataBase$Rows", name := "has", desc := "(II)Z" } : Jvm.MethodName) ({ cls := "StrataBase$Rows", name := "has", desc := "(II)Z" } : Jvm.MethodName)) ∈ tblG := rn_6 (List.mem_of_getElem? (i := 83) rfl) rfl
theorem wd_1284 : (Jvm.Cond.code ({ cls := "StrataBase$Rows", name := "has", desc := "(II)Z" } : Jvm.MethodName) prog_10_method_3_code (3 : Nat) (Option.some Jvm.ClassFile.FieldType.boolean)) ∈ tblG := rn_6 (List.mem_of_getElem? (i := 84) rfl) rfl
theorem wd_1285 : (Jvm.Cond.classLink "StrataBase" (163 : Nat) "java/lang/IndexOutOfBoundsException") ∈ tblG := rn_6 (List.mem_of_getElem? (i := 85) rfl) rfl
theorem wd_1286 : (Jvm.Cond.instantiable "java/lang/IndexOutOfBoundsException" (6 : Nat)) ∈ tblG := rn_6 (List.mem_of_getElem? (i := 86) rfl) rfl
theorem wd_1288 : (Jvm.Cond.selects "java/lang/IndexOutOfBoundsException" ({ cls := "java/lang/Throwable", name := "fillInStackTrace", desc := "(I)Ljava/lang/Throwable;" } : Jvm.MethodName) ({ cls := "java/lang/Throwable", name := "fillInStackTrace", desc := "(I)Ljava/lang/Throwable;" } : Jvm.MethodName)) ∈ tblG := rn_6 (List.mem_of_getElem? (i := 88) rfl) rfl
theorem wd_1289 : (Jvm.Cond.lays "java/lang/IndexOutOfBoundsException" "java/lang/Throwable" "cause" "Ljava/lang/Throwable;") ∈ tblG := rn_6 (List.mem_of_getElem? (i := 89) rfl) rfl
theorem wd_1290 : (Jvm.Cond.lays "java/lang/IndexOutOfBoundsException" "java/lang/Throwable" "stackTrace" "[Ljava/lang/StackTraceElement;") ∈ tblG := rn_6 (List.mem_of_getElem? (i := 90) rfl) rfl
theorem wd_1291 : (Jvm.Cond.lays "java/lang/IndexOutOfBoundsException" "java/lang/Throwable" "suppressedExceptions" "Ljava/util/List;") ∈ tblG := rn_6 (List.mem_of_getElem? (i := 91) rfl) rfl
theorem wd_1292 : (Jvm.Cond.lays "java/lang/IndexOutOfBoundsException" "java/lang/Throwable" "detailMessage" "Ljava/lang/String;") ∈ tblG := rn_6 (List.mem_of_getElem? (i := 92) rfl) rfl
theorem wd_1293 : (Jvm.Cond.lays "java/lang/IndexOutOfBoundsException" "java/lang/Throwable" "backtrace" "Ljava/lang/Object;") ∈ tblG := rn_6 (List.mem_of_getElem? (i := 93) rfl) rfl
theorem wd_1294 : (Jvm.Cond.methodLink "StrataBase" (165 : Nat) ({ cls := "java/lang/IndexOutOfBoundsException", name := "<init>", desc := "()V" } : Jvm.MethodName)) ∈ tblG := rn_6 (List.mem_of_getElem? (i := 94) rfl) rfl
theorem wd_1295 : (Jvm.Cond.instanceMethod ({ cls := "java/lang/IndexOutOfBoundsException", name := "<init>", desc := "()V" } : Jvm.MethodName)) ∈ tblG := rn_6 (List.mem_of_getElem? (i := 95) rfl) rfl
theorem wd_1296 : (Jvm.Cond.code ({ cls := "java/lang/IndexOutOfBoundsException", name := "<init>", desc := "()V" } : Jvm.MethodName) prog_19_method_1_code (1 : Nat) (Option.none : Option Jvm.ClassFile.FieldType)) ∈ tblG := rn_6 (List.mem_of_getElem? (i := 96) rfl) rfl
theorem wd_1297 : (Jvm.Cond.methodLink "java/lang/IndexOutOfBoundsException" (1 : Nat) ({ cls := "java/lang/RuntimeException", name := "<init>", desc := "()V" } : Jvm.MethodName)) ∈ tblG := rn_6 (List.mem_of_getElem? (i := 97) rfl) rfl
theorem wd_1298 : (Jvm.Cond.lays "java/lang/IndexOutOfBoundsException" "java/lang/Throwable" "depth" "I") ∈ tblG := rn_6 (List.mem_of_getElem? (i := 98) rfl) rfl
theorem wd_1300 : (Jvm.Cond.methodLink "StrataBase" (170 : Nat) ({ cls := "StrataBase$Rows", name := "rankAt", desc := "(II)I" } : Jvm.MethodName)) ∈ tblG := rn_6 (List.mem_of_getElem? (i := 100) rfl) rfl
theorem wd_1301 : (Jvm.Cond.instanceMethod ({ cls := "StrataBase$Rows", name := "rankAt", desc := "(II)I" } : Jvm.MethodName)) ∈ tblG := rn_6 (List.mem_of_getElem? (i := 101) rfl) rfl
theorem wd_1302 : (Jvm.Cond.selects "StrataBase$Rows" ({ cls := "StrataBase$Rows", name := "rankAt", desc := "(II)I" } : Jvm.MethodName) ({ cls := "StrataBase$Rows", name := "rankAt", desc := "(II)I" } : Jvm.MethodName)) ∈ tblG := rn_6 (List.mem_of_getElem? (i := 102) rfl) rfl
theorem wd_1303 : (Jvm.Cond.code ({ cls := "StrataBase$Rows", name := "rankAt", desc := "(II)I" } : Jvm.MethodName) prog_10_method_4_code (3 : Nat) (Option.some Jvm.ClassFile.FieldType.int)) ∈ tblG := rn_6 (List.mem_of_getElem? (i := 103) rfl) rfl
theorem wd_1304 : (Jvm.Cond.methodLink "StrataBase$Rows" (33 : Nat) ({ cls := "StrataBase$Facts", name := "rankIn", desc := "(JI)I" } : Jvm.MethodName)) ∈ tblG := rn_6 (List.mem_of_getElem? (i := 104) rfl) rfl
theorem wd_1305 : (Jvm.Cond.methodLink "StrataBase" (174 : Nat) ({ cls := "StrataBase$Constants", name := "lengthAt", desc := "(I)I" } : Jvm.MethodName)) ∈ tblG := rn_6 (List.mem_of_getElem? (i := 105) rfl) rfl
theorem wd_1306 : (Jvm.Cond.instanceMethod ({ cls := "StrataBase$Constants", name := "lengthAt", desc := "(I)I" } : Jvm.MethodName)) ∈ tblG := rn_6 (List.mem_of_getElem? (i := 106) rfl) rfl
theorem wd_1307 : (Jvm.Cond.selects "StrataBase$Constants" ({ cls := "StrataBase$Constants", name := "lengthAt", desc := "(I)I" } : Jvm.MethodName) ({ cls := "StrataBase$Constants", name := "lengthAt", desc := "(I)I" } : Jvm.MethodName)) ∈ tblG := rn_6 (List.mem_of_getElem? (i := 107) rfl) rfl
theorem wd_1308 : (Jvm.Cond.code ({ cls := "StrataBase$Constants", name := "lengthAt", desc := "(I)I" } : Jvm.MethodName) prog_3_method_8_code (2 : Nat) (Option.some Jvm.ClassFile.FieldType.int)) ∈ tblG := rn_6 (List.mem_of_getElem? (i := 108) rfl) rfl
theorem wd_1309 : (Jvm.Cond.methodLink "StrataBase$Constants" (60 : Nat) ({ cls := "StrataBase$Names", name := "lengthOf", desc := "(I)I" } : Jvm.MethodName)) ∈ tblG := rn_6 (List.mem_of_getElem? (i := 109) rfl) rfl
theorem wd_1310 : (Jvm.Cond.instanceMethod ({ cls := "StrataBase$Names", name := "lengthOf", desc := "(I)I" } : Jvm.MethodName)) ∈ tblG := rn_6 (List.mem_of_getElem? (i := 110) rfl) rfl
theorem wd_1311 : (Jvm.Cond.selects "StrataBase$Names" ({ cls := "StrataBase$Names", name := "lengthOf", desc := "(I)I" } : Jvm.MethodName) ({ cls := "StrataBase$Names", name := "lengthOf", desc := "(I)I" } : Jvm.MethodName)) ∈ tblG := rn_6 (List.mem_of_getElem? (i := 111) rfl) rfl
theorem wd_1312 : (Jvm.Cond.code ({ cls := "StrataBase$Names", name := "lengthOf", desc := "(I)I" } : Jvm.MethodName) prog_7_method_5_code (2 : Nat) (Option.some Jvm.ClassFile.FieldType.int)) ∈ tblG := rn_6 (List.mem_of_getElem? (i := 112) rfl) rfl
theorem wd_1313 : (Jvm.Cond.methodLink "StrataBaseLaw" (91 : Nat) ({ cls := "StrataBaseLaw", name := "number", desc := "(LStrataBase;II[J)I" } : Jvm.MethodName)) ∈ tblG := rn_6 (List.mem_of_getElem? (i := 113) rfl) rfl
theorem wd_1314 : (Jvm.Cond.static ({ cls := "StrataBaseLaw", name := "number", desc := "(LStrataBase;II[J)I" } : Jvm.MethodName)) ∈ tblG := rn_6 (List.mem_of_getElem? (i := 114) rfl) rfl
theorem wd_1315 : (Jvm.Cond.codeWith ({ cls := "StrataBaseLaw", name := "number", desc := "(LStrataBase;II[J)I" } : Jvm.MethodName) method_8_code (5 : Nat) (Option.some Jvm.ClassFile.FieldType.int) [((0 : Nat), (10 : Nat), (13 : Nat), (34 : Nat))]) ∈ tblG := rn_6 (List.mem_of_getElem? (i := 115) rfl) rfl
theorem wd_1316 : (Jvm.Cond.methodLink "StrataBaseLaw" (36 : Nat) ({ cls := "StrataBase", name := "number", desc := "(II)I" } : Jvm.MethodName)) ∈ tblG := rn_6 (List.mem_of_getElem? (i := 116) rfl) rfl
theorem wd_1317 : (Jvm.Cond.instanceMethod ({ cls := "StrataBase", name := "number", desc := "(II)I" } : Jvm.MethodName)) ∈ tblG := rn_6 (List.mem_of_getElem? (i := 117) rfl) rfl
theorem wd_1318 : (Jvm.Cond.selects "StrataBase" ({ cls := "StrataBase", name := "number", desc := "(II)I" } : Jvm.MethodName) ({ cls := "StrataBase", name := "number", desc := "(II)I" } : Jvm.MethodName)) ∈ tblG := rn_6 (List.mem_of_getElem? (i := 118) rfl) rfl
theorem wd_1319 : (Jvm.Cond.code ({ cls := "StrataBase", name := "number", desc := "(II)I" } : Jvm.MethodName) prog_1_method_10_code (5 : Nat) (Option.some Jvm.ClassFile.FieldType.int)) ∈ tblG := rn_6 (List.mem_of_getElem? (i := 119) rfl) rfl
theorem wd_1320 : (Jvm.Cond.methodLink "StrataBase" (180 : Nat) ({ cls := "StrataBase$Constants", name := "valueAt", desc := "(I)I" } : Jvm.MethodName)) ∈ tblG := rn_6 (List.mem_of_getElem? (i := 120) rfl) rfl
theorem wd_1321 : (Jvm.Cond.instanceMethod ({ cls := "StrataBase$Constants", name := "valueAt", desc := "(I)I" } : Jvm.MethodName)) ∈ tblG := rn_6 (List.mem_of_getElem? (i := 121) rfl) rfl
theorem wd_1322 : (Jvm.Cond.selects "StrataBase$Constants" ({ cls := "StrataBase$Constants", name := "valueAt", desc := "(I)I" } : Jvm.MethodName) ({ cls := "StrataBase$Constants", name := "valueAt", desc := "(I)I" } : Jvm.MethodName)) ∈ tblG := rn_6 (List.mem_of_getElem? (i := 122) rfl) rfl
theorem wd_1323 : (Jvm.Cond.code ({ cls := "StrataBase$Constants", name := "valueAt", desc := "(I)I" } : Jvm.MethodName) prog_3_method_9_code (2 : Nat) (Option.some Jvm.ClassFile.FieldType.int)) ∈ tblG := rn_6 (List.mem_of_getElem? (i := 123) rfl) rfl
theorem wd_1324 : (Jvm.Cond.methodLink "StrataBaseLaw" (94 : Nat) ({ cls := "StrataBaseLaw", name := "letter", desc := "(LStrataBase;III[J)I" } : Jvm.MethodName)) ∈ tblG := rn_6 (List.mem_of_getElem? (i := 124) rfl) rfl
theorem wd_1325 : (Jvm.Cond.static ({ cls := "StrataBaseLaw", name := "letter", desc := "(LStrataBase;III[J)I" } : Jvm.MethodName)) ∈ tblG := rn_6 (List.mem_of_getElem? (i := 125) rfl) rfl
theorem wd_1326 : (Jvm.Cond.codeWith ({ cls := "StrataBaseLaw", name := "letter", desc := "(LStrataBase;III[J)I" } : Jvm.MethodName) method_9_code (6 : Nat) (Option.some Jvm.ClassFile.FieldType.int) [((0 : Nat), (12 : Nat), (15 : Nat), (34 : Nat))]) ∈ tblG := rn_6 (List.mem_of_getElem? (i := 126) rfl) rfl
theorem wd_1327 : (Jvm.Cond.methodLink "StrataBaseLaw" (40 : Nat) ({ cls := "StrataBase", name := "letter", desc := "(III)I" } : Jvm.MethodName)) ∈ tblG := rn_6 (List.mem_of_getElem? (i := 127) rfl) rfl
theorem wd_1328 : (Jvm.Cond.instanceMethod ({ cls := "StrataBase", name := "letter", desc := "(III)I" } : Jvm.MethodName)) ∈ tblG := rn_6 (List.mem_of_getElem? (i := 128) rfl) rfl
theorem wd_1329 : (Jvm.Cond.selects "StrataBase" ({ cls := "StrataBase", name := "letter", desc := "(III)I" } : Jvm.MethodName) ({ cls := "StrataBase", name := "letter", desc := "(III)I" } : Jvm.MethodName)) ∈ tblG := rn_6 (List.mem_of_getElem? (i := 129) rfl) rfl
theorem wd_1330 : (Jvm.Cond.code ({ cls := "StrataBase", name := "letter", desc := "(III)I" } : Jvm.MethodName) prog_1_method_11_code (5 : Nat) (Option.some Jvm.ClassFile.FieldType.int)) ∈ tblG := rn_6 (List.mem_of_getElem? (i := 130) rfl) rfl
theorem wd_1331 : (Jvm.Cond.methodLink "StrataBase" (183 : Nat) ({ cls := "StrataBase$Constants", name := "byteAt", desc := "(II)I" } : Jvm.MethodName)) ∈ tblG := rn_6 (List.mem_of_getElem? (i := 131) rfl) rfl
theorem wd_1332 : (Jvm.Cond.instanceMethod ({ cls := "StrataBase$Constants", name := "byteAt", desc := "(II)I" } : Jvm.MethodName)) ∈ tblG := rn_6 (List.mem_of_getElem? (i := 132) rfl) rfl
theorem wd_1333 : (Jvm.Cond.selects "StrataBase$Constants" ({ cls := "StrataBase$Constants", name := "byteAt", desc := "(II)I" } : Jvm.MethodName) ({ cls := "StrataBase$Constants", name := "byteAt", desc := "(II)I" } : Jvm.MethodName)) ∈ tblG := rn_6 (List.mem_of_getElem? (i := 133) rfl) rfl
theorem wd_1334 : (Jvm.Cond.code ({ cls := "StrataBase$Constants", name := "byteAt", desc := "(II)I" } : Jvm.MethodName) prog_3_method_10_code (3 : Nat) (Option.some Jvm.ClassFile.FieldType.int)) ∈ tblG := rn_6 (List.mem_of_getElem? (i := 134) rfl) rfl
theorem wd_1335 : (Jvm.Cond.methodLink "StrataBase$Constants" (64 : Nat) ({ cls := "StrataBase$Names", name := "byteOf", desc := "(II)I" } : Jvm.MethodName)) ∈ tblG := rn_6 (List.mem_of_getElem? (i := 135) rfl) rfl
theorem wd_1336 : (Jvm.Cond.instanceMethod ({ cls := "StrataBase$Names", name := "byteOf", desc := "(II)I" } : Jvm.MethodName)) ∈ tblG := rn_6 (List.mem_of_getElem? (i := 136) rfl) rfl
theorem wd_1337 : (Jvm.Cond.selects "StrataBase$Names" ({ cls := "StrataBase$Names", name := "byteOf", desc := "(II)I" } : Jvm.MethodName) ({ cls := "StrataBase$Names", name := "byteOf", desc := "(II)I" } : Jvm.MethodName)) ∈ tblG := rn_6 (List.mem_of_getElem? (i := 137) rfl) rfl
theorem wd_1338 : (Jvm.Cond.code ({ cls := "StrataBase$Names", name := "byteOf", desc := "(II)I" } : Jvm.MethodName) prog_7_method_6_code (3 : Nat) (Option.some Jvm.ClassFile.FieldType.int)) ∈ tblG := rn_6 (List.mem_of_getElem? (i := 138) rfl) rfl
theorem wd_1339 : (Jvm.Cond.methodLink "StrataBaseLaw" (98 : Nat) ({ cls := "StrataBaseLaw", name := "stage", desc := "(LStrataBase;[J)I" } : Jvm.MethodName)) ∈ tblG := rn_6 (List.mem_of_getElem? (i := 139) rfl) rfl
theorem wd_1340 : (Jvm.Cond.static ({ cls := "StrataBaseLaw", name := "stage", desc := "(LStrataBase;[J)I" } : Jvm.MethodName)) ∈ tblG := rn_6 (List.mem_of_getElem? (i := 140) rfl) rfl
theorem wd_1341 : (Jvm.Cond.codeWith ({ cls := "StrataBaseLaw", name := "stage", desc := "(LStrataBase;[J)I" } : Jvm.MethodName) method_10_code (3 : Nat) (Option.some Jvm.ClassFile.FieldType.int) [((0 : Nat), (8 : Nat), (11 : Nat), (28 : Nat))]) ∈ tblG := rn_6 (List.mem_of_getElem? (i := 141) rfl) rfl
theorem wd_1342 : (Jvm.Cond.methodLink "StrataBaseLaw" (44 : Nat) ({ cls := "StrataBase", name := "stage", desc := "()I" } : Jvm.MethodName)) ∈ tblG := rn_6 (List.mem_of_getElem? (i := 142) rfl) rfl
theorem wd_1343 : (Jvm.Cond.instanceMethod ({ cls := "StrataBase", name := "stage", desc := "()I" } : Jvm.MethodName)) ∈ tblG := rn_6 (List.mem_of_getElem? (i := 143) rfl) rfl
theorem wd_1344 : (Jvm.Cond.selects "StrataBase" ({ cls := "StrataBase", name := "stage", desc := "()I" } : Jvm.MethodName) ({ cls := "StrataBase", name := "stage", desc := "()I" } : Jvm.MethodName)) ∈ tblG := rn_6 (List.mem_of_getElem? (i := 144) rfl) rfl
theorem wd_1345 : (Jvm.Cond.code ({ cls := "StrataBase", name := "stage", desc := "()I" } : Jvm.MethodName) prog_1_method_12_code (3 : Nat) (Option.some Jvm.ClassFile.FieldType.int)) ∈ tblG := rn_6 (List.mem_of_getElem? (i := 145) rfl) rfl
theorem wd_1346 : (Jvm.Cond.methodLink "StrataBase" (193 : Nat) ({ cls := "StrataBase$Clauses", name := "keyOf", desc := "(I[I)J" } : Jvm.MethodName)) ∈ tblG := rn_6 (List.mem_of_getElem? (i := 146) rfl) rfl
theorem wd_1347 : (Jvm.Cond.methodLink "StrataBase" (197 : Nat) ({ cls := "StrataBase$Facts", name := "find", desc := "(IJ)I" } : Jvm.MethodName)) ∈ tblG := rn_6 (List.mem_of_getElem? (i := 147) rfl) rfl
theorem wd_1348 : (Jvm.Cond.instanceMethod ({ cls := "StrataBase$Facts", name := "find", desc := "(IJ)I" } : Jvm.MethodName)) ∈ tblG := rn_6 (List.mem_of_getElem? (i := 148) rfl) rfl
theorem wd_1349 : (Jvm.Cond.selects "StrataBase$Facts" ({ cls := "StrataBase$Facts", name := "find", desc := "(IJ)I" } : Jvm.MethodName) ({ cls := "StrataBase$Facts", name := "find", desc := "(IJ)I" } : Jvm.MethodName)) ∈ tblG := rn_6 (List.mem_of_getElem? (i := 149) rfl) rfl
theorem wd_1350 : (Jvm.Cond.code ({ cls := "StrataBase$Facts", name := "find", desc := "(IJ)I" } : Jvm.MethodName) prog_4_method_5_code (4 : Nat) (Option.some Jvm.ClassFile.FieldType.int)) ∈ tblG := rn_6 (List.mem_of_getElem? (i := 150) rfl) rfl
theorem wd_1351 : (Jvm.Cond.methodLink "StrataBaseLaw" (105 : Nat) ({ cls := "StrataBaseLaw", name := "count", desc := "(LStrataBase;I[J)I" } : Jvm.MethodName)) ∈ tblG := rn_6 (List.mem_of_getElem? (i := 151) rfl) rfl
theorem wd_1352 : (Jvm.Cond.static ({ cls := "StrataBaseLaw", name := "count", desc := "(LStrataBase;I[J)I" } : Jvm.MethodName)) ∈ tblG := rn_6 (List.mem_of_getElem? (i := 152) rfl) rfl
theorem wd_1353 : (Jvm.Cond.codeWith ({ cls := "StrataBaseLaw", name := "count", desc := "(LStrataBase;I[J)I" } : Jvm.MethodName) method_11_code (4 : Nat) (Option.some Jvm.ClassFile.FieldType.int) [((0 : Nat), (9 : Nat), (12 : Nat), (19 : Nat))]) ∈ tblG := rn_6 (List.mem_of_getElem? (i := 153) rfl) rfl
theorem wd_1354 : (Jvm.Cond.methodLink "StrataBaseLaw" (47 : Nat) ({ cls := "StrataBase", name := "count", desc := "(I)I" } : Jvm.MethodName)) ∈ tblG := rn_6 (List.mem_of_getElem? (i := 154) rfl) rfl
theorem wd_1355 : (Jvm.Cond.instanceMethod ({ cls := "StrataBase", name := "count", desc := "(I)I" } : Jvm.MethodName)) ∈ tblG := rn_6 (List.mem_of_getElem? (i := 155) rfl) rfl
theorem wd_1356 : (Jvm.Cond.selects "StrataBase" ({ cls := "StrataBase", name := "count", desc := "(I)I" } : Jvm.MethodName) ({ cls := "StrataBase", name := "count", desc := "(I)I" } : Jvm.MethodName)) ∈ tblG := rn_6 (List.mem_of_getElem? (i := 156) rfl) rfl
theorem wd_1357 : (Jvm.Cond.code ({ cls := "StrataBase", name := "count", desc := "(I)I" } : Jvm.MethodName) prog_1_method_14_code (2 : Nat) (Option.some Jvm.ClassFile.FieldType.int)) ∈ tblG := rn_6 (List.mem_of_getElem? (i := 157) rfl) rfl
theorem wd_1358 : (Jvm.Cond.methodLink "StrataBase" (210 : Nat) ({ cls := "StrataBase$Constants", name := "size", desc := "()I" } : Jvm.MethodName)) ∈ tblG := rn_6 (List.mem_of_getElem? (i := 158) rfl) rfl
theorem wd_1359 : (Jvm.Cond.classLink "StrataBaseLaw" (52 : Nat) "StrataBaseModel") ∈ tblG := rn_6 (List.mem_of_getElem? (i := 159) rfl) rfl
theorem wd_1360 : (Jvm.Cond.instantiable "StrataBaseModel" (64 : Nat)) ∈ tblG := rn_6 (List.mem_of_getElem? (i := 160) rfl) rfl
theorem wd_1361 : (Jvm.Cond.methodLink "StrataBaseLaw" (54 : Nat) ({ cls := "StrataBaseModel", name := "<init>", desc := "()V" } : Jvm.MethodName)) ∈ tblG := rn_6 (List.mem_of_getElem? (i := 161) rfl) rfl
theorem wd_1362 : (Jvm.Cond.instanceMethod ({ cls := "StrataBaseModel", name := "<init>", desc := "()V" } : Jvm.MethodName)) ∈ tblG := rn_6 (List.mem_of_getElem? (i := 162) rfl) rfl
theorem wd_1363 : (Jvm.Cond.code ({ cls := "StrataBaseModel", name := "<init>", desc := "()V" } : Jvm.MethodName) prog_14_method_1_code (1 : Nat) (Option.none : Option Jvm.ClassFile.FieldType)) ∈ tblG := rn_6 (List.mem_of_getElem? (i := 163) rfl) rfl
theorem wd_1364 : (Jvm.Cond.methodLink "StrataBaseModel" (1 : Nat) ({ cls := "java/lang/Object", name := "<init>", desc := "()V" } : Jvm.MethodName)) ∈ tblG := rn_6 (List.mem_of_getElem? (i := 164) rfl) rfl
theorem wd_1365 : (Jvm.Cond.constant "StrataBaseModel" (7 : Nat) (65536 : Int32)) ∈ tblG := rn_6 (List.mem_of_getElem? (i := 165) rfl) rfl
theorem wd_1366 : (Jvm.Cond.constant "StrataBaseModel" (14 : Nat) (196608 : Int32)) ∈ tblG := rn_6 (List.mem_of_getElem? (i := 166) rfl) rfl
theorem wd_1367 : (Jvm.Cond.constant "StrataBaseModel" (56 : Nat) (40092 : Int32)) ∈ tblG := rn_6 (List.mem_of_getElem? (i := 167) rfl) rfl
theorem wd_1368 : (Jvm.Cond.constant "StrataBaseModel" (90 : Nat) (120006 : Int32)) ∈ tblG := rn_6 (List.mem_of_getElem? (i := 168) rfl) rfl
theorem wd_1369 : (Jvm.Cond.constant "StrataBaseModel" (115 : Nat) (60012 : Int32)) ∈ tblG := rn_6 (List.mem_of_getElem? (i := 169) rfl) rfl
theorem wd_1370 : (Jvm.Cond.fieldLink "StrataBaseModel" (125 : Nat) "StrataBaseModel" "code" "I") ∈ tblG := rn_6 (List.mem_of_getElem? (i := 170) rfl) rfl
theorem wd_1371 : (Jvm.Cond.fieldLink "StrataBaseModel" (8 : Nat) "StrataBaseModel" "tape" "[B") ∈ tblG := rn_6 (List.mem_of_getElem? (i := 171) rfl) rfl
theorem wd_1372 : (Jvm.Cond.fieldLink "StrataBaseModel" (129 : Nat) "StrataBaseModel" "length" "I") ∈ tblG := rn_6 (List.mem_of_getElem? (i := 172) rfl) rfl
theorem wd_1373 : (Jvm.Cond.fieldLink "StrataBaseModel" (132 : Nat) "StrataBaseModel" "faultCode" "I") ∈ tblG := rn_6 (List.mem_of_getElem? (i := 173) rfl) rfl
theorem wd_1374 : (Jvm.Cond.fieldLink "StrataBaseModel" (138 : Nat) "StrataBaseModel" "faultPlace" "I") ∈ tblG := rn_6 (List.mem_of_getElem? (i := 174) rfl) rfl
theorem wd_1375 : (Jvm.Cond.fieldLink "StrataBaseModel" (15 : Nat) "StrataBaseModel" "text" "[B") ∈ tblG := rn_6 (List.mem_of_getElem? (i := 175) rfl) rfl
theorem wd_1376 : (Jvm.Cond.fieldLink "StrataBaseModel" (271 : Nat) "StrataBaseModel" "live" "I") ∈ tblG := rn_6 (List.mem_of_getElem? (i := 176) rfl) rfl
theorem wd_1377 : (Jvm.Cond.fieldLink "StrataBaseModel" (195 : Nat) "StrataBaseModel" "set" "I") ∈ tblG := rn_6 (List.mem_of_getElem? (i := 177) rfl) rfl
theorem wd_1378 : (Jvm.Cond.fieldLink "StrataBaseModel" (18 : Nat) "StrataBaseModel" "predFrom" "[I") ∈ tblG := rn_6 (List.mem_of_getElem? (i := 178) rfl) rfl
theorem wd_1379 : (Jvm.Cond.fieldLink "StrataBaseModel" (22 : Nat) "StrataBaseModel" "predLength" "[I") ∈ tblG := rn_6 (List.mem_of_getElem? (i := 179) rfl) rfl
theorem wd_1380 : (Jvm.Cond.fieldLink "StrataBaseModel" (25 : Nat) "StrataBaseModel" "predArity" "[I") ∈ tblG := rn_6 (List.mem_of_getElem? (i := 180) rfl) rfl
theorem wd_1381 : (Jvm.Cond.fieldLink "StrataBaseModel" (28 : Nat) "StrataBaseModel" "preds" "[I") ∈ tblG := rn_6 (List.mem_of_getElem? (i := 181) rfl) rfl
theorem wd_1382 : (Jvm.Cond.fieldLink "StrataBaseModel" (31 : Nat) "StrataBaseModel" "conNumber" "[Z") ∈ tblG := rn_6 (List.mem_of_getElem? (i := 182) rfl) rfl
theorem wd_1383 : (Jvm.Cond.fieldLink "StrataBaseModel" (35 : Nat) "StrataBaseModel" "conValue" "[I") ∈ tblG := rn_6 (List.mem_of_getElem? (i := 183) rfl) rfl
theorem wd_1384 : (Jvm.Cond.fieldLink "StrataBaseModel" (38 : Nat) "StrataBaseModel" "conFrom" "[I") ∈ tblG := rn_6 (List.mem_of_getElem? (i := 184) rfl) rfl
theorem wd_1385 : (Jvm.Cond.fieldLink "StrataBaseModel" (41 : Nat) "StrataBaseModel" "cons" "[I") ∈ tblG := rn_6 (List.mem_of_getElem? (i := 185) rfl) rfl
theorem wd_1386 : (Jvm.Cond.fieldLink "StrataBaseModel" (44 : Nat) "StrataBaseModel" "clauses" "[I") ∈ tblG := rn_6 (List.mem_of_getElem? (i := 186) rfl) rfl
theorem wd_1387 : (Jvm.Cond.fieldLink "StrataBaseModel" (47 : Nat) "StrataBaseModel" "litCount" "[I") ∈ tblG := rn_6 (List.mem_of_getElem? (i := 187) rfl) rfl
theorem wd_1388 : (Jvm.Cond.fieldLink "StrataBaseModel" (50 : Nat) "StrataBaseModel" "litKind" "[I") ∈ tblG := rn_6 (List.mem_of_getElem? (i := 188) rfl) rfl
theorem wd_1389 : (Jvm.Cond.fieldLink "StrataBaseModel" (53 : Nat) "StrataBaseModel" "litPred" "[I") ∈ tblG := rn_6 (List.mem_of_getElem? (i := 189) rfl) rfl
theorem wd_1390 : (Jvm.Cond.fieldLink "StrataBaseModel" (57 : Nat) "StrataBaseModel" "litTerms" "[I") ∈ tblG := rn_6 (List.mem_of_getElem? (i := 190) rfl) rfl
theorem wd_1391 : (Jvm.Cond.fieldLink "StrataBaseModel" (60 : Nat) "StrataBaseModel" "varCount" "[I") ∈ tblG := rn_6 (List.mem_of_getElem? (i := 191) rfl) rfl
theorem wd_1392 : (Jvm.Cond.fieldLink "StrataBaseModel" (63 : Nat) "StrataBaseModel" "litPlace" "[I") ∈ tblG := rn_6 (List.mem_of_getElem? (i := 192) rfl) rfl
theorem wd_1393 : (Jvm.Cond.fieldLink "StrataBaseModel" (66 : Nat) "StrataBaseModel" "notPlace" "[I") ∈ tblG := rn_6 (List.mem_of_getElem? (i := 193) rfl) rfl
theorem wd_1394 : (Jvm.Cond.fieldLink "StrataBaseModel" (69 : Nat) "StrataBaseModel" "termPlace" "[I") ∈ tblG := rn_6 (List.mem_of_getElem? (i := 194) rfl) rfl
theorem wd_1395 : (Jvm.Cond.fieldLink "StrataBaseModel" (72 : Nat) "StrataBaseModel" "litArity" "[I") ∈ tblG := rn_6 (List.mem_of_getElem? (i := 195) rfl) rfl
theorem wd_1396 : (Jvm.Cond.fieldLink "StrataBaseModel" (75 : Nat) "StrataBaseModel" "varFrom" "[I") ∈ tblG := rn_6 (List.mem_of_getElem? (i := 196) rfl) rfl
theorem wd_1397 : (Jvm.Cond.fieldLink "StrataBaseModel" (78 : Nat) "StrataBaseModel" "varLength" "[I") ∈ tblG := rn_6 (List.mem_of_getElem? (i := 197) rfl) rfl
theorem wd_1398 : (Jvm.Cond.fieldLink "StrataBaseModel" (135 : Nat) "StrataBaseModel" "base" "I") ∈ tblG := rn_6 (List.mem_of_getElem? (i := 198) rfl) rfl
theorem wd_1399 : (Jvm.Cond.fieldLink "StrataBaseModel" (141 : Nat) "StrataBaseModel" "stop" "I") ∈ tblG := rn_6 (List.mem_of_getElem? (i := 199) rfl) rfl
theorem wd_1400 : (Jvm.Cond.fieldLink "StrataBaseModel" (167 : Nat) "StrataBaseModel" "token" "I") ∈ tblG := rn_6 (List.mem_of_getElem? (i := 200) rfl) rfl
theorem wd_1401 : (Jvm.Cond.fieldLink "StrataBaseModel" (158 : Nat) "StrataBaseModel" "from" "I") ∈ tblG := rn_6 (List.mem_of_getElem? (i := 201) rfl) rfl
theorem wd_1402 : (Jvm.Cond.fieldLink "StrataBaseModel" (151 : Nat) "StrataBaseModel" "to" "I") ∈ tblG := rn_6 (List.mem_of_getElem? (i := 202) rfl) rfl
theorem wd_1403 : (Jvm.Cond.fieldLink "StrataBaseModel" (181 : Nat) "StrataBaseModel" "amount" "J") ∈ tblG := rn_6 (List.mem_of_getElem? (i := 203) rfl) rfl
theorem wd_1404 : (Jvm.Cond.fieldLink "StrataBaseModel" (202 : Nat) "StrataBaseModel" "clause" "I") ∈ tblG := rn_6 (List.mem_of_getElem? (i := 204) rfl) rfl
theorem wd_1405 : (Jvm.Cond.fieldLink "StrataBaseModel" (214 : Nat) "StrataBaseModel" "asks" "Z") ∈ tblG := rn_6 (List.mem_of_getElem? (i := 205) rfl) rfl
theorem wd_1406 : (Jvm.Cond.fieldLink "StrataBaseModel" (208 : Nat) "StrataBaseModel" "conAll" "I") ∈ tblG := rn_6 (List.mem_of_getElem? (i := 206) rfl) rfl
theorem wd_1407 : (Jvm.Cond.fieldLink "StrataBaseModel" (205 : Nat) "StrataBaseModel" "vars" "I") ∈ tblG := rn_6 (List.mem_of_getElem? (i := 207) rfl) rfl
theorem wd_1408 : (Jvm.Cond.fieldLink "StrataBaseModel" (255 : Nat) "StrataBaseModel" "wrongCode" "I") ∈ tblG := rn_6 (List.mem_of_getElem? (i := 208) rfl) rfl
theorem wd_1409 : (Jvm.Cond.fieldLink "StrataBaseModel" (252 : Nat) "StrataBaseModel" "wrongPlace" "I") ∈ tblG := rn_6 (List.mem_of_getElem? (i := 209) rfl) rfl
theorem wd_1410 : (Jvm.Cond.fieldLink "StrataBaseModel" (81 : Nat) "StrataBaseModel" "depends" "[Z") ∈ tblG := rn_6 (List.mem_of_getElem? (i := 210) rfl) rfl
theorem wd_1411 : (Jvm.Cond.fieldLink "StrataBaseModel" (84 : Nat) "StrataBaseModel" "strata" "[I") ∈ tblG := rn_6 (List.mem_of_getElem? (i := 211) rfl) rfl
theorem wd_1412 : (Jvm.Cond.fieldLink "StrataBaseModel" (268 : Nat) "StrataBaseModel" "highest" "I") ∈ tblG := rn_6 (List.mem_of_getElem? (i := 212) rfl) rfl
theorem wd_1413 : (Jvm.Cond.fieldLink "StrataBaseModel" (294 : Nat) "StrataBaseModel" "ran" "Z") ∈ tblG := rn_6 (List.mem_of_getElem? (i := 213) rfl) rfl
theorem wd_1414 : (Jvm.Cond.fieldLink "StrataBaseModel" (87 : Nat) "StrataBaseModel" "factPred" "[I") ∈ tblG := rn_6 (List.mem_of_getElem? (i := 214) rfl) rfl
theorem wd_1415 : (Jvm.Cond.fieldLink "StrataBaseModel" (91 : Nat) "StrataBaseModel" "factTerms" "[I") ∈ tblG := rn_6 (List.mem_of_getElem? (i := 215) rfl) rfl
theorem wd_1416 : (Jvm.Cond.fieldLink "StrataBaseModel" (94 : Nat) "StrataBaseModel" "factStage" "[I") ∈ tblG := rn_6 (List.mem_of_getElem? (i := 216) rfl) rfl
theorem wd_1417 : (Jvm.Cond.fieldLink "StrataBaseModel" (297 : Nat) "StrataBaseModel" "facts" "I") ∈ tblG := rn_6 (List.mem_of_getElem? (i := 217) rfl) rfl
theorem wd_1418 : (Jvm.Cond.fieldLink "StrataBaseModel" (342 : Nat) "StrataBaseModel" "lastStage" "I") ∈ tblG := rn_6 (List.mem_of_getElem? (i := 218) rfl) rfl
theorem wd_1419 : (Jvm.Cond.fieldLink "StrataBaseModel" (97 : Nat) "StrataBaseModel" "table" "[I") ∈ tblG := rn_6 (List.mem_of_getElem? (i := 219) rfl) rfl
theorem wd_1420 : (Jvm.Cond.fieldLink "StrataBaseModel" (100 : Nat) "StrataBaseModel" "sought" "[I") ∈ tblG := rn_6 (List.mem_of_getElem? (i := 220) rfl) rfl
theorem wd_1421 : (Jvm.Cond.fieldLink "StrataBaseModel" (308 : Nat) "StrataBaseModel" "place" "I") ∈ tblG := rn_6 (List.mem_of_getElem? (i := 221) rfl) rfl
theorem wd_1422 : (Jvm.Cond.fieldLink "StrataBaseModel" (103 : Nat) "StrataBaseModel" "values" "[I") ∈ tblG := rn_6 (List.mem_of_getElem? (i := 222) rfl) rfl
theorem wd_1423 : (Jvm.Cond.fieldLink "StrataBaseModel" (106 : Nat) "StrataBaseModel" "boundBy" "[I") ∈ tblG := rn_6 (List.mem_of_getElem? (i := 223) rfl) rfl
theorem wd_1424 : (Jvm.Cond.fieldLink "StrataBaseModel" (109 : Nat) "StrataBaseModel" "atoms" "[I") ∈ tblG := rn_6 (List.mem_of_getElem? (i := 224) rfl) rfl
theorem wd_1425 : (Jvm.Cond.fieldLink "StrataBaseModel" (112 : Nat) "StrataBaseModel" "at" "[I") ∈ tblG := rn_6 (List.mem_of_getElem? (i := 225) rfl) rfl
theorem wd_1426 : (Jvm.Cond.fieldLink "StrataBaseModel" (324 : Nat) "StrataBaseModel" "atomCount" "I") ∈ tblG := rn_6 (List.mem_of_getElem? (i := 226) rfl) rfl
theorem wd_1427 : (Jvm.Cond.fieldLink "StrataBaseModel" (116 : Nat) "StrataBaseModel" "rowCells" "[I") ∈ tblG := rn_6 (List.mem_of_getElem? (i := 227) rfl) rfl
theorem wd_1428 : (Jvm.Cond.fieldLink "StrataBaseModel" (300 : Nat) "StrataBaseModel" "rows" "I") ∈ tblG := rn_6 (List.mem_of_getElem? (i := 228) rfl) rfl
theorem wd_1429 : (Jvm.Cond.fieldLink "StrataBaseModel" (303 : Nat) "StrataBaseModel" "width" "I") ∈ tblG := rn_6 (List.mem_of_getElem? (i := 229) rfl) rfl
theorem wd_1430 : (Jvm.Cond.fieldLink "StrataBaseModel" (119 : Nat) "StrataBaseModel" "newCells" "[I") ∈ tblG := rn_6 (List.mem_of_getElem? (i := 230) rfl) rfl
theorem wd_1431 : (Jvm.Cond.fieldLink "StrataBaseModel" (352 : Nat) "StrataBaseModel" "newRows" "I") ∈ tblG := rn_6 (List.mem_of_getElem? (i := 231) rfl) rfl
theorem wd_1432 : (Jvm.Cond.fieldLink "StrataBaseModel" (355 : Nat) "StrataBaseModel" "newWidth" "I") ∈ tblG := rn_6 (List.mem_of_getElem? (i := 232) rfl) rfl
theorem wd_1433 : (Jvm.Cond.fieldLink "StrataBaseModel" (122 : Nat) "StrataBaseModel" "newColumns" "[I") ∈ tblG := rn_6 (List.mem_of_getElem? (i := 233) rfl) rfl
theorem wd_1434 : (Jvm.Cond.lays "StrataBaseModel" "StrataBaseModel" "code" "I") ∈ tblG := rn_6 (List.mem_of_getElem? (i := 234) rfl) rfl
theorem wd_1436 : (Jvm.Cond.laysFinal "StrataBaseModel" "StrataBaseModel" "tape" "[B") ∈ tblG := rn_6 (List.mem_of_getElem? (i := 236) rfl) rfl
theorem wd_1438 : (Jvm.Cond.lays "StrataBaseModel" "StrataBaseModel" "length" "I") ∈ tblG := rn_6 (List.mem_of_getElem? (i := 238) rfl) rfl
theorem wd_1440 : (Jvm.Cond.lays "StrataBaseModel" "StrataBaseModel" "faultCode" "I") ∈ tblG := rn_7 (List.mem_of_getElem? (i := 0) rfl) rfl
theorem wd_1442 : (Jvm.Cond.lays "StrataBaseModel" "StrataBaseModel" "faultPlace" "I") ∈ tblG := rn_7 (List.mem_of_getElem? (i := 2) rfl) rfl
theorem wd_1444 : (Jvm.Cond.laysFinal "StrataBaseModel" "StrataBaseModel" "text" "[B") ∈ tblG := rn_7 (List.mem_of_getElem? (i := 4) rfl) rfl
theorem wd_1446 : (Jvm.Cond.lays "StrataBaseModel" "StrataBaseModel" "live" "I") ∈ tblG := rn_7 (List.mem_of_getElem? (i := 6) rfl) rfl
theorem wd_1448 : (Jvm.Cond.lays "StrataBaseModel" "StrataBaseModel" "set" "I") ∈ tblG := rn_7 (List.mem_of_getElem? (i := 8) rfl) rfl
theorem wd_1450 : (Jvm.Cond.laysFinal "StrataBaseModel" "StrataBaseModel" "predFrom" "[I") ∈ tblG := rn_7 (List.mem_of_getElem? (i := 10) rfl) rfl
theorem wd_1452 : (Jvm.Cond.laysFinal "StrataBaseModel" "StrataBaseModel" "predLength" "[I") ∈ tblG := rn_7 (List.mem_of_getElem? (i := 12) rfl) rfl
theorem wd_1454 : (Jvm.Cond.laysFinal "StrataBaseModel" "StrataBaseModel" "predArity" "[I") ∈ tblG := rn_7 (List.mem_of_getElem? (i := 14) rfl) rfl
theorem wd_1456 : (Jvm.Cond.laysFinal "StrataBaseModel" "StrataBaseModel" "preds" "[I") ∈ tblG := rn_7 (List.mem_of_getElem? (i := 16) rfl) rfl
theorem wd_1458 : (Jvm.Cond.laysFinal "StrataBaseModel" "StrataBaseModel" "conNumber" "[Z") ∈ tblG := rn_7 (List.mem_of_getElem? (i := 18) rfl) rfl
theorem wd_1460 : (Jvm.Cond.laysFinal "StrataBaseModel" "StrataBaseModel" "conValue" "[I") ∈ tblG := rn_7 (List.mem_of_getElem? (i := 20) rfl) rfl
theorem wd_1462 : (Jvm.Cond.laysFinal "StrataBaseModel" "StrataBaseModel" "conFrom" "[I") ∈ tblG := rn_7 (List.mem_of_getElem? (i := 22) rfl) rfl
theorem wd_1464 : (Jvm.Cond.laysFinal "StrataBaseModel" "StrataBaseModel" "cons" "[I") ∈ tblG := rn_7 (List.mem_of_getElem? (i := 24) rfl) rfl
theorem wd_1466 : (Jvm.Cond.laysFinal "StrataBaseModel" "StrataBaseModel" "clauses" "[I") ∈ tblG := rn_7 (List.mem_of_getElem? (i := 26) rfl) rfl
theorem wd_1468 : (Jvm.Cond.laysFinal "StrataBaseModel" "StrataBaseModel" "litCount" "[I") ∈ tblG := rn_7 (List.mem_of_getElem? (i := 28) rfl) rfl
theorem wd_1470 : (Jvm.Cond.laysFinal "StrataBaseModel" "StrataBaseModel" "litKind" "[I") ∈ tblG := rn_7 (List.mem_of_getElem? (i := 30) rfl) rfl
theorem wd_1472 : (Jvm.Cond.laysFinal "StrataBaseModel" "StrataBaseModel" "litPred" "[I") ∈ tblG := rn_7 (List.mem_of_getElem? (i := 32) rfl) rfl
theorem wd_1474 : (Jvm.Cond.laysFinal "StrataBaseModel" "StrataBaseModel" "litTerms" "[I") ∈ tblG := rn_7 (List.mem_of_getElem? (i := 34) rfl) rfl
theorem wd_1476 : (Jvm.Cond.laysFinal "StrataBaseModel" "StrataBaseModel" "varCount" "[I") ∈ tblG := rn_7 (List.mem_of_getElem? (i := 36) rfl) rfl
theorem wd_1478 : (Jvm.Cond.laysFinal "StrataBaseModel" "StrataBaseModel" "litPlace" "[I") ∈ tblG := rn_7 (List.mem_of_getElem? (i := 38) rfl) rfl
theorem wd_1480 : (Jvm.Cond.laysFinal "StrataBaseModel" "StrataBaseModel" "notPlace" "[I") ∈ tblG := rn_7 (List.mem_of_getElem? (i := 40) rfl) rfl
theorem wd_1482 : (Jvm.Cond.laysFinal "StrataBaseModel" "StrataBaseModel" "termPlace" "[I") ∈ tblG := rn_7 (List.mem_of_getElem? (i := 42) rfl) rfl
theorem wd_1484 : (Jvm.Cond.laysFinal "StrataBaseModel" "StrataBaseModel" "litArity" "[I") ∈ tblG := rn_7 (List.mem_of_getElem? (i := 44) rfl) rfl
theorem wd_1486 : (Jvm.Cond.laysFinal "StrataBaseModel" "StrataBaseModel" "varFrom" "[I") ∈ tblG := rn_7 (List.mem_of_getElem? (i := 46) rfl) rfl
theorem wd_1488 : (Jvm.Cond.laysFinal "StrataBaseModel" "StrataBaseModel" "varLength" "[I") ∈ tblG := rn_7 (List.mem_of_getElem? (i := 48) rfl) rfl
theorem wd_1490 : (Jvm.Cond.lays "StrataBaseModel" "StrataBaseModel" "base" "I") ∈ tblG := rn_7 (List.mem_of_getElem? (i := 50) rfl) rfl
theorem wd_1492 : (Jvm.Cond.lays "StrataBaseModel" "StrataBaseModel" "stop" "I") ∈ tblG := rn_7 (List.mem_of_getElem? (i := 52) rfl) rfl
theorem wd_1494 : (Jvm.Cond.lays "StrataBaseModel" "StrataBaseModel" "token" "I") ∈ tblG := rn_7 (List.mem_of_getElem? (i := 54) rfl) rfl
theorem wd_1496 : (Jvm.Cond.lays "StrataBaseModel" "StrataBaseModel" "from" "I") ∈ tblG := rn_7 (List.mem_of_getElem? (i := 56) rfl) rfl
theorem wd_1498 : (Jvm.Cond.lays "StrataBaseModel" "StrataBaseModel" "to" "I") ∈ tblG := rn_7 (List.mem_of_getElem? (i := 58) rfl) rfl
theorem wd_1500 : (Jvm.Cond.lays "StrataBaseModel" "StrataBaseModel" "amount" "J") ∈ tblG := rn_7 (List.mem_of_getElem? (i := 60) rfl) rfl
theorem wd_1502 : (Jvm.Cond.lays "StrataBaseModel" "StrataBaseModel" "clause" "I") ∈ tblG := rn_7 (List.mem_of_getElem? (i := 62) rfl) rfl
theorem wd_1504 : (Jvm.Cond.lays "StrataBaseModel" "StrataBaseModel" "asks" "Z") ∈ tblG := rn_7 (List.mem_of_getElem? (i := 64) rfl) rfl
theorem wd_1506 : (Jvm.Cond.lays "StrataBaseModel" "StrataBaseModel" "conAll" "I") ∈ tblG := rn_7 (List.mem_of_getElem? (i := 66) rfl) rfl
theorem wd_1508 : (Jvm.Cond.lays "StrataBaseModel" "StrataBaseModel" "vars" "I") ∈ tblG := rn_7 (List.mem_of_getElem? (i := 68) rfl) rfl
theorem wd_1510 : (Jvm.Cond.lays "StrataBaseModel" "StrataBaseModel" "wrongCode" "I") ∈ tblG := rn_7 (List.mem_of_getElem? (i := 70) rfl) rfl
theorem wd_1512 : (Jvm.Cond.lays "StrataBaseModel" "StrataBaseModel" "wrongPlace" "I") ∈ tblG := rn_7 (List.mem_of_getElem? (i := 72) rfl) rfl
theorem wd_1514 : (Jvm.Cond.laysFinal "StrataBaseModel" "StrataBaseModel" "depends" "[Z") ∈ tblG := rn_7 (List.mem_of_getElem? (i := 74) rfl) rfl
theorem wd_1516 : (Jvm.Cond.laysFinal "StrataBaseModel" "StrataBaseModel" "strata" "[I") ∈ tblG := rn_7 (List.mem_of_getElem? (i := 76) rfl) rfl
theorem wd_1518 : (Jvm.Cond.lays "StrataBaseModel" "StrataBaseModel" "highest" "I") ∈ tblG := rn_7 (List.mem_of_getElem? (i := 78) rfl) rfl
theorem wd_1520 : (Jvm.Cond.lays "StrataBaseModel" "StrataBaseModel" "ran" "Z") ∈ tblG := rn_7 (List.mem_of_getElem? (i := 80) rfl) rfl
theorem wd_1522 : (Jvm.Cond.laysFinal "StrataBaseModel" "StrataBaseModel" "factPred" "[I") ∈ tblG := rn_7 (List.mem_of_getElem? (i := 82) rfl) rfl
theorem wd_1524 : (Jvm.Cond.laysFinal "StrataBaseModel" "StrataBaseModel" "factTerms" "[I") ∈ tblG := rn_7 (List.mem_of_getElem? (i := 84) rfl) rfl
theorem wd_1526 : (Jvm.Cond.laysFinal "StrataBaseModel" "StrataBaseModel" "factStage" "[I") ∈ tblG := rn_7 (List.mem_of_getElem? (i := 86) rfl) rfl
theorem wd_1528 : (Jvm.Cond.lays "StrataBaseModel" "StrataBaseModel" "facts" "I") ∈ tblG := rn_7 (List.mem_of_getElem? (i := 88) rfl) rfl
theorem wd_1530 : (Jvm.Cond.lays "StrataBaseModel" "StrataBaseModel" "lastStage" "I") ∈ tblG := rn_7 (List.mem_of_getElem? (i := 90) rfl) rfl
theorem wd_1532 : (Jvm.Cond.laysFinal "StrataBaseModel" "StrataBaseModel" "table" "[I") ∈ tblG := rn_7 (List.mem_of_getElem? (i := 92) rfl) rfl
theorem wd_1534 : (Jvm.Cond.laysFinal "StrataBaseModel" "StrataBaseModel" "sought" "[I") ∈ tblG := rn_7 (List.mem_of_getElem? (i := 94) rfl) rfl
theorem wd_1536 : (Jvm.Cond.lays "StrataBaseModel" "StrataBaseModel" "place" "I") ∈ tblG := rn_7 (List.mem_of_getElem? (i := 96) rfl) rfl
theorem wd_1538 : (Jvm.Cond.laysFinal "StrataBaseModel" "StrataBaseModel" "values" "[I") ∈ tblG := rn_7 (List.mem_of_getElem? (i := 98) rfl) rfl
theorem wd_1540 : (Jvm.Cond.laysFinal "StrataBaseModel" "StrataBaseModel" "boundBy" "[I") ∈ tblG := rn_7 (List.mem_of_getElem? (i := 100) rfl) rfl
theorem wd_1542 : (Jvm.Cond.laysFinal "StrataBaseModel" "StrataBaseModel" "atoms" "[I") ∈ tblG := rn_7 (List.mem_of_getElem? (i := 102) rfl) rfl
theorem wd_1544 : (Jvm.Cond.laysFinal "StrataBaseModel" "StrataBaseModel" "at" "[I") ∈ tblG := rn_7 (List.mem_of_getElem? (i := 104) rfl) rfl
theorem wd_1546 : (Jvm.Cond.lays "StrataBaseModel" "StrataBaseModel" "atomCount" "I") ∈ tblG := rn_7 (List.mem_of_getElem? (i := 106) rfl) rfl
theorem wd_1548 : (Jvm.Cond.laysFinal "StrataBaseModel" "StrataBaseModel" "rowCells" "[I") ∈ tblG := rn_7 (List.mem_of_getElem? (i := 108) rfl) rfl
theorem wd_1550 : (Jvm.Cond.lays "StrataBaseModel" "StrataBaseModel" "rows" "I") ∈ tblG := rn_7 (List.mem_of_getElem? (i := 110) rfl) rfl
theorem wd_1552 : (Jvm.Cond.lays "StrataBaseModel" "StrataBaseModel" "width" "I") ∈ tblG := rn_7 (List.mem_of_getElem? (i := 112) rfl) rfl
theorem wd_1554 : (Jvm.Cond.laysFinal "StrataBaseModel" "StrataBaseModel" "newCells" "[I") ∈ tblG := rn_7 (List.mem_of_getElem? (i := 114) rfl) rfl
theorem wd_1556 : (Jvm.Cond.lays "StrataBaseModel" "StrataBaseModel" "newRows" "I") ∈ tblG := rn_7 (List.mem_of_getElem? (i := 116) rfl) rfl
theorem wd_1558 : (Jvm.Cond.lays "StrataBaseModel" "StrataBaseModel" "newWidth" "I") ∈ tblG := rn_7 (List.mem_of_getElem? (i := 118) rfl) rfl
theorem wd_1560 : (Jvm.Cond.laysFinal "StrataBaseModel" "StrataBaseModel" "newColumns" "[I") ∈ tblG := rn_7 (List.mem_of_getElem? (i := 120) rfl) rfl
theorem wd_1563 : (Jvm.Cond.arrayClass Jvm.ClassFile.FieldType.boolean) ∈ tblG := rn_7 (List.mem_of_getElem? (i := 123) rfl) rfl
theorem wd_1564 : (Jvm.Cond.methodLink "StrataBaseLaw" (61 : Nat) ({ cls := "StrataBaseModel", name := "thrown", desc := "()I" } : Jvm.MethodName)) ∈ tblG := rn_7 (List.mem_of_getElem? (i := 124) rfl) rfl
theorem wd_1565 : (Jvm.Cond.instanceMethod ({ cls := "StrataBaseModel", name := "thrown", desc := "()I" } : Jvm.MethodName)) ∈ tblG := rn_7 (List.mem_of_getElem? (i := 125) rfl) rfl
theorem wd_1566 : (Jvm.Cond.selects "StrataBaseModel" ({ cls := "StrataBaseModel", name := "thrown", desc := "()I" } : Jvm.MethodName) ({ cls := "StrataBaseModel", name := "thrown", desc := "()I" } : Jvm.MethodName)) ∈ tblG := rn_7 (List.mem_of_getElem? (i := 126) rfl) rfl
theorem wd_1567 : (Jvm.Cond.code ({ cls := "StrataBaseModel", name := "thrown", desc := "()I" } : Jvm.MethodName) prog_14_method_2_code (1 : Nat) (Option.some Jvm.ClassFile.FieldType.int)) ∈ tblG := rn_7 (List.mem_of_getElem? (i := 127) rfl) rfl
theorem wd_1568 : (Jvm.Cond.methodLink "StrataBaseLaw" (60 : Nat) ({ cls := "StrataBaseModel", name := "feed", desc := "(IIIII)I" } : Jvm.MethodName)) ∈ tblG := rn_7 (List.mem_of_getElem? (i := 128) rfl) rfl
theorem wd_1569 : (Jvm.Cond.instanceMethod ({ cls := "StrataBaseModel", name := "feed", desc := "(IIIII)I" } : Jvm.MethodName)) ∈ tblG := rn_7 (List.mem_of_getElem? (i := 129) rfl) rfl
theorem wd_1570 : (Jvm.Cond.selects "StrataBaseModel" ({ cls := "StrataBaseModel", name := "feed", desc := "(IIIII)I" } : Jvm.MethodName) ({ cls := "StrataBaseModel", name := "feed", desc := "(IIIII)I" } : Jvm.MethodName)) ∈ tblG := rn_7 (List.mem_of_getElem? (i := 130) rfl) rfl
theorem wd_1571 : (Jvm.Cond.code ({ cls := "StrataBaseModel", name := "feed", desc := "(IIIII)I" } : Jvm.MethodName) prog_14_method_3_code (8 : Nat) (Option.some Jvm.ClassFile.FieldType.int)) ∈ tblG := rn_7 (List.mem_of_getElem? (i := 131) rfl) rfl
theorem wd_1572 : (Jvm.Cond.methodLink "StrataBaseLaw" (67 : Nat) ({ cls := "StrataBaseModel", name := "end", desc := "(I)V" } : Jvm.MethodName)) ∈ tblG := rn_7 (List.mem_of_getElem? (i := 132) rfl) rfl
theorem wd_1573 : (Jvm.Cond.instanceMethod ({ cls := "StrataBaseModel", name := "end", desc := "(I)V" } : Jvm.MethodName)) ∈ tblG := rn_7 (List.mem_of_getElem? (i := 133) rfl) rfl
theorem wd_1574 : (Jvm.Cond.selects "StrataBaseModel" ({ cls := "StrataBaseModel", name := "end", desc := "(I)V" } : Jvm.MethodName) ({ cls := "StrataBaseModel", name := "end", desc := "(I)V" } : Jvm.MethodName)) ∈ tblG := rn_7 (List.mem_of_getElem? (i := 134) rfl) rfl
theorem wd_1575 : (Jvm.Cond.code ({ cls := "StrataBaseModel", name := "end", desc := "(I)V" } : Jvm.MethodName) prog_14_method_4_code (2 : Nat) (Option.none : Option Jvm.ClassFile.FieldType)) ∈ tblG := rn_7 (List.mem_of_getElem? (i := 135) rfl) rfl
theorem wd_1576 : (Jvm.Cond.methodLink "StrataBaseLaw" (75 : Nat) ({ cls := "StrataBaseModel", name := "fault", desc := "()I" } : Jvm.MethodName)) ∈ tblG := rn_7 (List.mem_of_getElem? (i := 136) rfl) rfl
theorem wd_1577 : (Jvm.Cond.instanceMethod ({ cls := "StrataBaseModel", name := "fault", desc := "()I" } : Jvm.MethodName)) ∈ tblG := rn_7 (List.mem_of_getElem? (i := 137) rfl) rfl
theorem wd_1578 : (Jvm.Cond.selects "StrataBaseModel" ({ cls := "StrataBaseModel", name := "fault", desc := "()I" } : Jvm.MethodName) ({ cls := "StrataBaseModel", name := "fault", desc := "()I" } : Jvm.MethodName)) ∈ tblG := rn_7 (List.mem_of_getElem? (i := 138) rfl) rfl
theorem wd_1579 : (Jvm.Cond.code ({ cls := "StrataBaseModel", name := "fault", desc := "()I" } : Jvm.MethodName) prog_14_method_5_code (1 : Nat) (Option.some Jvm.ClassFile.FieldType.int)) ∈ tblG := rn_7 (List.mem_of_getElem? (i := 139) rfl) rfl
theorem wd_1580 : (Jvm.Cond.methodLink "StrataBaseLaw" (71 : Nat) ({ cls := "StrataBaseModel", name := "load", desc := "()I" } : Jvm.MethodName)) ∈ tblG := rn_7 (List.mem_of_getElem? (i := 140) rfl) rfl
theorem wd_1581 : (Jvm.Cond.instanceMethod ({ cls := "StrataBaseModel", name := "load", desc := "()I" } : Jvm.MethodName)) ∈ tblG := rn_7 (List.mem_of_getElem? (i := 141) rfl) rfl
theorem wd_1582 : (Jvm.Cond.selects "StrataBaseModel" ({ cls := "StrataBaseModel", name := "load", desc := "()I" } : Jvm.MethodName) ({ cls := "StrataBaseModel", name := "load", desc := "()I" } : Jvm.MethodName)) ∈ tblG := rn_7 (List.mem_of_getElem? (i := 142) rfl) rfl
theorem wd_1583 : (Jvm.Cond.code ({ cls := "StrataBaseModel", name := "load", desc := "()I" } : Jvm.MethodName) prog_14_method_36_code (2 : Nat) (Option.some Jvm.ClassFile.FieldType.int)) ∈ tblG := rn_7 (List.mem_of_getElem? (i := 143) rfl) rfl
theorem wd_1584 : (Jvm.Cond.methodLink "StrataBaseModel" (274 : Nat) ({ cls := "StrataBaseModel", name := "starts", desc := "(I)Z" } : Jvm.MethodName)) ∈ tblG := rn_7 (List.mem_of_getElem? (i := 144) rfl) rfl
theorem wd_1586 : (Jvm.Cond.instanceMethod ({ cls := "StrataBaseModel", name := "starts", desc := "(I)Z" } : Jvm.MethodName)) ∈ tblG := rn_7 (List.mem_of_getElem? (i := 146) rfl) rfl
theorem wd_1587 : (Jvm.Cond.code ({ cls := "StrataBaseModel", name := "starts", desc := "(I)Z" } : Jvm.MethodName) prog_14_method_12_code (4 : Nat) (Option.some Jvm.ClassFile.FieldType.boolean)) ∈ tblG := rn_7 (List.mem_of_getElem? (i := 147) rfl) rfl
theorem wd_1588 : (Jvm.Cond.methodLink "StrataBaseModel" (154 : Nat) ({ cls := "StrataBaseModel", name := "next", desc := "()Z" } : Jvm.MethodName)) ∈ tblG := rn_7 (List.mem_of_getElem? (i := 148) rfl) rfl
theorem wd_1590 : (Jvm.Cond.instanceMethod ({ cls := "StrataBaseModel", name := "next", desc := "()Z" } : Jvm.MethodName)) ∈ tblG := rn_7 (List.mem_of_getElem? (i := 150) rfl) rfl
theorem wd_1591 : (Jvm.Cond.code ({ cls := "StrataBaseModel", name := "next", desc := "()Z" } : Jvm.MethodName) prog_14_method_13_code (5 : Nat) (Option.some Jvm.ClassFile.FieldType.boolean)) ∈ tblG := rn_7 (List.mem_of_getElem? (i := 151) rfl) rfl
theorem wd_1592 : (Jvm.Cond.methodLink "StrataBaseModel" (161 : Nat) ({ cls := "StrataBaseModel", name := "at", desc := "(I)I" } : Jvm.MethodName)) ∈ tblG := rn_7 (List.mem_of_getElem? (i := 152) rfl) rfl
theorem wd_1594 : (Jvm.Cond.instanceMethod ({ cls := "StrataBaseModel", name := "at", desc := "(I)I" } : Jvm.MethodName)) ∈ tblG := rn_7 (List.mem_of_getElem? (i := 154) rfl) rfl
theorem wd_1595 : (Jvm.Cond.code ({ cls := "StrataBaseModel", name := "at", desc := "(I)I" } : Jvm.MethodName) prog_14_method_7_code (2 : Nat) (Option.some Jvm.ClassFile.FieldType.int)) ∈ tblG := rn_7 (List.mem_of_getElem? (i := 155) rfl) rfl
theorem wd_1596 : (Jvm.Cond.methodLink "StrataBaseModel" (164 : Nat) ({ cls := "StrataBaseModel", name := "isBlank", desc := "(I)Z" } : Jvm.MethodName)) ∈ tblG := rn_7 (List.mem_of_getElem? (i := 156) rfl) rfl
theorem wd_1597 : (Jvm.Cond.static ({ cls := "StrataBaseModel", name := "isBlank", desc := "(I)Z" } : Jvm.MethodName)) ∈ tblG := rn_7 (List.mem_of_getElem? (i := 157) rfl) rfl
theorem wd_1598 : (Jvm.Cond.code ({ cls := "StrataBaseModel", name := "isBlank", desc := "(I)Z" } : Jvm.MethodName) prog_14_method_11_code (1 : Nat) (Option.some Jvm.ClassFile.FieldType.boolean)) ∈ tblG := rn_7 (List.mem_of_getElem? (i := 158) rfl) rfl
theorem wd_1599 : (Jvm.Cond.methodLink "StrataBaseModel" (170 : Nat) ({ cls := "StrataBaseModel", name := "isWord", desc := "(I)Z" } : Jvm.MethodName)) ∈ tblG := rn_7 (List.mem_of_getElem? (i := 159) rfl) rfl
theorem wd_1600 : (Jvm.Cond.static ({ cls := "StrataBaseModel", name := "isWord", desc := "(I)Z" } : Jvm.MethodName)) ∈ tblG := rn_7 (List.mem_of_getElem? (i := 160) rfl) rfl
theorem wd_1601 : (Jvm.Cond.code ({ cls := "StrataBaseModel", name := "isWord", desc := "(I)Z" } : Jvm.MethodName) prog_14_method_10_code (1 : Nat) (Option.some Jvm.ClassFile.FieldType.boolean)) ∈ tblG := rn_7 (List.mem_of_getElem? (i := 161) rfl) rfl
theorem wd_1602 : (Jvm.Cond.methodLink "StrataBaseModel" (144 : Nat) ({ cls := "StrataBaseModel", name := "isDigit", desc := "(I)Z" } : Jvm.MethodName)) ∈ tblG := rn_7 (List.mem_of_getElem? (i := 162) rfl) rfl
theorem wd_1603 : (Jvm.Cond.static ({ cls := "StrataBaseModel", name := "isDigit", desc := "(I)Z" } : Jvm.MethodName)) ∈ tblG := rn_7 (List.mem_of_getElem? (i := 163) rfl) rfl
theorem wd_1604 : (Jvm.Cond.code ({ cls := "StrataBaseModel", name := "isDigit", desc := "(I)Z" } : Jvm.MethodName) prog_14_method_8_code (1 : Nat) (Option.some Jvm.ClassFile.FieldType.boolean)) ∈ tblG := rn_7 (List.mem_of_getElem? (i := 164) rfl) rfl
theorem wd_1605 : (Jvm.Cond.methodLink "StrataBaseModel" (148 : Nat) ({ cls := "StrataBaseModel", name := "isSmall", desc := "(I)Z" } : Jvm.MethodName)) ∈ tblG := rn_7 (List.mem_of_getElem? (i := 165) rfl) rfl
theorem wd_1606 : (Jvm.Cond.static ({ cls := "StrataBaseModel", name := "isSmall", desc := "(I)Z" } : Jvm.MethodName)) ∈ tblG := rn_7 (List.mem_of_getElem? (i := 166) rfl) rfl
theorem wd_1607 : (Jvm.Cond.code ({ cls := "StrataBaseModel", name := "isSmall", desc := "(I)Z" } : Jvm.MethodName) prog_14_method_9_code (1 : Nat) (Option.some Jvm.ClassFile.FieldType.boolean)) ∈ tblG := rn_7 (List.mem_of_getElem? (i := 167) rfl) rfl
theorem wd_1608 : (Jvm.Cond.methodLink "StrataBaseModel" (173 : Nat) ({ cls := "StrataBaseModel", name := "figure", desc := "(Z)Z" } : Jvm.MethodName)) ∈ tblG := rn_7 (List.mem_of_getElem? (i := 168) rfl) rfl
theorem wd_1610 : (Jvm.Cond.instanceMethod ({ cls := "StrataBaseModel", name := "figure", desc := "(Z)Z" } : Jvm.MethodName)) ∈ tblG := rn_7 (List.mem_of_getElem? (i := 170) rfl) rfl
theorem wd_1611 : (Jvm.Cond.code ({ cls := "StrataBaseModel", name := "figure", desc := "(Z)Z" } : Jvm.MethodName) prog_14_method_14_code (2 : Nat) (Option.some Jvm.ClassFile.FieldType.boolean)) ∈ tblG := rn_7 (List.mem_of_getElem? (i := 171) rfl) rfl
theorem wd_1612 : (Jvm.Cond.constantLong "StrataBaseModel" (185 : Nat) (3000000000 : Int64)) ∈ tblG := rn_7 (List.mem_of_getElem? (i := 172) rfl) rfl
theorem wd_1613 : (Jvm.Cond.constantLong "StrataBaseModel" (187 : Nat) (10 : Int64)) ∈ tblG := rn_7 (List.mem_of_getElem? (i := 173) rfl) rfl
theorem wd_1614 : (Jvm.Cond.constantLong "StrataBaseModel" (189 : Nat) (48 : Int64)) ∈ tblG := rn_7 (List.mem_of_getElem? (i := 174) rfl) rfl
theorem wd_1615 : (Jvm.Cond.constantLong "StrataBaseModel" (191 : Nat) (-2147483648 : Int64)) ∈ tblG := rn_7 (List.mem_of_getElem? (i := 175) rfl) rfl
theorem wd_1616 : (Jvm.Cond.constantLong "StrataBaseModel" (193 : Nat) (2147483647 : Int64)) ∈ tblG := rn_7 (List.mem_of_getElem? (i := 176) rfl) rfl
theorem wd_1617 : (Jvm.Cond.methodLink "StrataBaseModel" (177 : Nat) ({ cls := "StrataBaseModel", name := "flaw", desc := "(II)Z" } : Jvm.MethodName)) ∈ tblG := rn_7 (List.mem_of_getElem? (i := 177) rfl) rfl
theorem wd_1619 : (Jvm.Cond.instanceMethod ({ cls := "StrataBaseModel", name := "flaw", desc := "(II)Z" } : Jvm.MethodName)) ∈ tblG := rn_7 (List.mem_of_getElem? (i := 179) rfl) rfl
theorem wd_1620 : (Jvm.Cond.code ({ cls := "StrataBaseModel", name := "flaw", desc := "(II)Z" } : Jvm.MethodName) prog_14_method_6_code (3 : Nat) (Option.some Jvm.ClassFile.FieldType.boolean)) ∈ tblG := rn_7 (List.mem_of_getElem? (i := 180) rfl) rfl
theorem wd_1621 : (Jvm.Cond.methodLink "StrataBaseModel" (277 : Nat) ({ cls := "StrataBaseModel", name := "readClauses", desc := "()Z" } : Jvm.MethodName)) ∈ tblG := rn_7 (List.mem_of_getElem? (i := 181) rfl) rfl
theorem wd_1623 : (Jvm.Cond.instanceMethod ({ cls := "StrataBaseModel", name := "readClauses", desc := "()Z" } : Jvm.MethodName)) ∈ tblG := rn_7 (List.mem_of_getElem? (i := 183) rfl) rfl
theorem wd_1624 : (Jvm.Cond.code ({ cls := "StrataBaseModel", name := "readClauses", desc := "()Z" } : Jvm.MethodName) prog_14_method_28_code (1 : Nat) (Option.some Jvm.ClassFile.FieldType.boolean)) ∈ tblG := rn_7 (List.mem_of_getElem? (i := 184) rfl) rfl
theorem wd_1625 : (Jvm.Cond.methodLink "StrataBaseModel" (224 : Nat) ({ cls := "StrataBaseModel", name := "cannot", desc := "()Z" } : Jvm.MethodName)) ∈ tblG := rn_7 (List.mem_of_getElem? (i := 185) rfl) rfl
theorem wd_1627 : (Jvm.Cond.instanceMethod ({ cls := "StrataBaseModel", name := "cannot", desc := "()Z" } : Jvm.MethodName)) ∈ tblG := rn_7 (List.mem_of_getElem? (i := 187) rfl) rfl
theorem wd_1628 : (Jvm.Cond.code ({ cls := "StrataBaseModel", name := "cannot", desc := "()Z" } : Jvm.MethodName) prog_14_method_21_code (1 : Nat) (Option.some Jvm.ClassFile.FieldType.boolean)) ∈ tblG := rn_7 (List.mem_of_getElem? (i := 188) rfl) rfl
theorem wd_1629 : (Jvm.Cond.methodLink "StrataBaseModel" (240 : Nat) ({ cls := "StrataBaseModel", name := "atom", desc := "(II)Z" } : Jvm.MethodName)) ∈ tblG := rn_7 (List.mem_of_getElem? (i := 189) rfl) rfl
theorem wd_1631 : (Jvm.Cond.instanceMethod ({ cls := "StrataBaseModel", name := "atom", desc := "(II)Z" } : Jvm.MethodName)) ∈ tblG := rn_7 (List.mem_of_getElem? (i := 191) rfl) rfl
theorem wd_1632 : (Jvm.Cond.code ({ cls := "StrataBaseModel", name := "atom", desc := "(II)Z" } : Jvm.MethodName) prog_14_method_24_code (3 : Nat) (Option.some Jvm.ClassFile.FieldType.boolean)) ∈ tblG := rn_7 (List.mem_of_getElem? (i := 192) rfl) rfl
theorem wd_1633 : (Jvm.Cond.methodLink "StrataBaseModel" (234 : Nat) ({ cls := "StrataBaseModel", name := "name", desc := "(II)Z" } : Jvm.MethodName)) ∈ tblG := rn_7 (List.mem_of_getElem? (i := 193) rfl) rfl
theorem wd_1635 : (Jvm.Cond.instanceMethod ({ cls := "StrataBaseModel", name := "name", desc := "(II)Z" } : Jvm.MethodName)) ∈ tblG := rn_7 (List.mem_of_getElem? (i := 195) rfl) rfl
theorem wd_1636 : (Jvm.Cond.code ({ cls := "StrataBaseModel", name := "name", desc := "(II)Z" } : Jvm.MethodName) prog_14_method_23_code (4 : Nat) (Option.some Jvm.ClassFile.FieldType.boolean)) ∈ tblG := rn_7 (List.mem_of_getElem? (i := 196) rfl) rfl
theorem wd_1637 : (Jvm.Cond.methodLink "StrataBaseModel" (230 : Nat) ({ cls := "StrataBaseModel", name := "predicate", desc := "()I" } : Jvm.MethodName)) ∈ tblG := rn_7 (List.mem_of_getElem? (i := 197) rfl) rfl
theorem wd_1639 : (Jvm.Cond.instanceMethod ({ cls := "StrataBaseModel", name := "predicate", desc := "()I" } : Jvm.MethodName)) ∈ tblG := rn_7 (List.mem_of_getElem? (i := 199) rfl) rfl
theorem wd_1640 : (Jvm.Cond.code ({ cls := "StrataBaseModel", name := "predicate", desc := "()I" } : Jvm.MethodName) prog_14_method_16_code (3 : Nat) (Option.some Jvm.ClassFile.FieldType.int)) ∈ tblG := rn_7 (List.mem_of_getElem? (i := 200) rfl) rfl
theorem wd_1641 : (Jvm.Cond.methodLink "StrataBaseModel" (198 : Nat) ({ cls := "StrataBaseModel", name := "isSame", desc := "(III)Z" } : Jvm.MethodName)) ∈ tblG := rn_7 (List.mem_of_getElem? (i := 201) rfl) rfl
theorem wd_1643 : (Jvm.Cond.instanceMethod ({ cls := "StrataBaseModel", name := "isSame", desc := "(III)Z" } : Jvm.MethodName)) ∈ tblG := rn_7 (List.mem_of_getElem? (i := 203) rfl) rfl
theorem wd_1644 : (Jvm.Cond.code ({ cls := "StrataBaseModel", name := "isSame", desc := "(III)Z" } : Jvm.MethodName) prog_14_method_15_code (5 : Nat) (Option.some Jvm.ClassFile.FieldType.boolean)) ∈ tblG := rn_7 (List.mem_of_getElem? (i := 204) rfl) rfl
theorem wd_1645 : (Jvm.Cond.methodLink "StrataBaseModel" (218 : Nat) ({ cls := "StrataBaseModel", name := "literal", desc := "(I)I" } : Jvm.MethodName)) ∈ tblG := rn_7 (List.mem_of_getElem? (i := 205) rfl) rfl
theorem wd_1647 : (Jvm.Cond.instanceMethod ({ cls := "StrataBaseModel", name := "literal", desc := "(I)I" } : Jvm.MethodName)) ∈ tblG := rn_7 (List.mem_of_getElem? (i := 207) rfl) rfl
theorem wd_1648 : (Jvm.Cond.code ({ cls := "StrataBaseModel", name := "literal", desc := "(I)I" } : Jvm.MethodName) prog_14_method_18_code (2 : Nat) (Option.some Jvm.ClassFile.FieldType.int)) ∈ tblG := rn_7 (List.mem_of_getElem? (i := 208) rfl) rfl
theorem wd_1649 : (Jvm.Cond.methodLink "StrataBaseModel" (237 : Nat) ({ cls := "StrataBaseModel", name := "terms", desc := "(I)Z" } : Jvm.MethodName)) ∈ tblG := rn_7 (List.mem_of_getElem? (i := 209) rfl) rfl
theorem wd_1651 : (Jvm.Cond.instanceMethod ({ cls := "StrataBaseModel", name := "terms", desc := "(I)Z" } : Jvm.MethodName)) ∈ tblG := rn_7 (List.mem_of_getElem? (i := 211) rfl) rfl
theorem wd_1652 : (Jvm.Cond.code ({ cls := "StrataBaseModel", name := "terms", desc := "(I)Z" } : Jvm.MethodName) prog_14_method_22_code (4 : Nat) (Option.some Jvm.ClassFile.FieldType.boolean)) ∈ tblG := rn_7 (List.mem_of_getElem? (i := 212) rfl) rfl
theorem wd_1653 : (Jvm.Cond.methodLink "StrataBaseModel" (221 : Nat) ({ cls := "StrataBaseModel", name := "isTerm", desc := "()Z" } : Jvm.MethodName)) ∈ tblG := rn_7 (List.mem_of_getElem? (i := 213) rfl) rfl
theorem wd_1655 : (Jvm.Cond.instanceMethod ({ cls := "StrataBaseModel", name := "isTerm", desc := "()Z" } : Jvm.MethodName)) ∈ tblG := rn_7 (List.mem_of_getElem? (i := 215) rfl) rfl
theorem wd_1656 : (Jvm.Cond.code ({ cls := "StrataBaseModel", name := "isTerm", desc := "()Z" } : Jvm.MethodName) prog_14_method_20_code (1 : Nat) (Option.some Jvm.ClassFile.FieldType.boolean)) ∈ tblG := rn_7 (List.mem_of_getElem? (i := 216) rfl) rfl
theorem wd_1657 : (Jvm.Cond.methodLink "StrataBaseModel" (227 : Nat) ({ cls := "StrataBaseModel", name := "term", desc := "(II)Z" } : Jvm.MethodName)) ∈ tblG := rn_7 (List.mem_of_getElem? (i := 217) rfl) rfl
theorem wd_1659 : (Jvm.Cond.instanceMethod ({ cls := "StrataBaseModel", name := "term", desc := "(II)Z" } : Jvm.MethodName)) ∈ tblG := rn_7 (List.mem_of_getElem? (i := 219) rfl) rfl
theorem wd_1660 : (Jvm.Cond.code ({ cls := "StrataBaseModel", name := "term", desc := "(II)Z" } : Jvm.MethodName) prog_14_method_19_code (6 : Nat) (Option.some Jvm.ClassFile.FieldType.boolean)) ∈ tblG := rn_7 (List.mem_of_getElem? (i := 220) rfl) rfl
theorem wd_1661 : (Jvm.Cond.methodLink "StrataBaseModel" (211 : Nat) ({ cls := "StrataBaseModel", name := "constant", desc := "(I)I" } : Jvm.MethodName)) ∈ tblG := rn_7 (List.mem_of_getElem? (i := 221) rfl) rfl
theorem wd_1663 : (Jvm.Cond.instanceMethod ({ cls := "StrataBaseModel", name := "constant", desc := "(I)I" } : Jvm.MethodName)) ∈ tblG := rn_7 (List.mem_of_getElem? (i := 223) rfl) rfl
theorem wd_1664 : (Jvm.Cond.code ({ cls := "StrataBaseModel", name := "constant", desc := "(I)I" } : Jvm.MethodName) prog_14_method_17_code (5 : Nat) (Option.some Jvm.ClassFile.FieldType.int)) ∈ tblG := rn_7 (List.mem_of_getElem? (i := 224) rfl) rfl
theorem wd_1665 : (Jvm.Cond.methodLink "StrataBaseModel" (249 : Nat) ({ cls := "StrataBaseModel", name := "body", desc := "()Z" } : Jvm.MethodName)) ∈ tblG := rn_7 (List.mem_of_getElem? (i := 225) rfl) rfl
theorem wd_1667 : (Jvm.Cond.instanceMethod ({ cls := "StrataBaseModel", name := "body", desc := "()Z" } : Jvm.MethodName)) ∈ tblG := rn_7 (List.mem_of_getElem? (i := 227) rfl) rfl
theorem wd_1668 : (Jvm.Cond.code ({ cls := "StrataBaseModel", name := "body", desc := "()Z" } : Jvm.MethodName) prog_14_method_27_code (3 : Nat) (Option.some Jvm.ClassFile.FieldType.boolean)) ∈ tblG := rn_7 (List.mem_of_getElem? (i := 228) rfl) rfl
theorem wd_1669 : (Jvm.Cond.methodLink "StrataBaseModel" (246 : Nat) ({ cls := "StrataBaseModel", name := "bodyLiteral", desc := "(I)Z" } : Jvm.MethodName)) ∈ tblG := rn_7 (List.mem_of_getElem? (i := 229) rfl) rfl
theorem wd_1671 : (Jvm.Cond.instanceMethod ({ cls := "StrataBaseModel", name := "bodyLiteral", desc := "(I)Z" } : Jvm.MethodName)) ∈ tblG := rn_7 (List.mem_of_getElem? (i := 231) rfl) rfl
theorem wd_1672 : (Jvm.Cond.code ({ cls := "StrataBaseModel", name := "bodyLiteral", desc := "(I)Z" } : Jvm.MethodName) prog_14_method_26_code (6 : Nat) (Option.some Jvm.ClassFile.FieldType.boolean)) ∈ tblG := rn_7 (List.mem_of_getElem? (i := 232) rfl) rfl
theorem wd_1673 : (Jvm.Cond.methodLink "StrataBaseModel" (243 : Nat) ({ cls := "StrataBaseModel", name := "isSign", desc := "()Z" } : Jvm.MethodName)) ∈ tblG := rn_7 (List.mem_of_getElem? (i := 233) rfl) rfl
theorem wd_1675 : (Jvm.Cond.instanceMethod ({ cls := "StrataBaseModel", name := "isSign", desc := "()Z" } : Jvm.MethodName)) ∈ tblG := rn_7 (List.mem_of_getElem? (i := 235) rfl) rfl
theorem wd_1676 : (Jvm.Cond.code ({ cls := "StrataBaseModel", name := "isSign", desc := "()Z" } : Jvm.MethodName) prog_14_method_25_code (1 : Nat) (Option.some Jvm.ClassFile.FieldType.boolean)) ∈ tblG := rn_7 (List.mem_of_getElem? (i := 236) rfl) rfl
theorem wd_1677 : (Jvm.Cond.constant "StrataBaseModel" (280 : Nat) (2147483647 : Int32)) ∈ tblG := rn_7 (List.mem_of_getElem? (i := 237) rfl) rfl
theorem wd_1678 : (Jvm.Cond.methodLink "StrataBaseModel" (281 : Nat) ({ cls := "StrataBaseModel", name := "arities", desc := "()V" } : Jvm.MethodName)) ∈ tblG := rn_7 (List.mem_of_getElem? (i := 238) rfl) rfl
theorem wd_1680 : (Jvm.Cond.instanceMethod ({ cls := "StrataBaseModel", name := "arities", desc := "()V" } : Jvm.MethodName)) ∈ tblG := rn_8 (List.mem_of_getElem? (i := 0) rfl) rfl
theorem wd_1681 : (Jvm.Cond.code ({ cls := "StrataBaseModel", name := "arities", desc := "()V" } : Jvm.MethodName) prog_14_method_32_code (4 : Nat) (Option.none : Option Jvm.ClassFile.FieldType)) ∈ tblG := rn_8 (List.mem_of_getElem? (i := 1) rfl) rfl
theorem wd_1682 : (Jvm.Cond.methodLink "StrataBaseModel" (261 : Nat) ({ cls := "StrataBaseModel", name := "wrong", desc := "(II)V" } : Jvm.MethodName)) ∈ tblG := rn_8 (List.mem_of_getElem? (i := 2) rfl) rfl
theorem wd_1684 : (Jvm.Cond.instanceMethod ({ cls := "StrataBaseModel", name := "wrong", desc := "(II)V" } : Jvm.MethodName)) ∈ tblG := rn_8 (List.mem_of_getElem? (i := 4) rfl) rfl
theorem wd_1685 : (Jvm.Cond.code ({ cls := "StrataBaseModel", name := "wrong", desc := "(II)V" } : Jvm.MethodName) prog_14_method_29_code (3 : Nat) (Option.none : Option Jvm.ClassFile.FieldType)) ∈ tblG := rn_8 (List.mem_of_getElem? (i := 5) rfl) rfl
theorem wd_1686 : (Jvm.Cond.methodLink "StrataBaseModel" (284 : Nat) ({ cls := "StrataBaseModel", name := "look", desc := "(I)V" } : Jvm.MethodName)) ∈ tblG := rn_8 (List.mem_of_getElem? (i := 6) rfl) rfl
theorem wd_1688 : (Jvm.Cond.instanceMethod ({ cls := "StrataBaseModel", name := "look", desc := "(I)V" } : Jvm.MethodName)) ∈ tblG := rn_8 (List.mem_of_getElem? (i := 8) rfl) rfl
theorem wd_1689 : (Jvm.Cond.code ({ cls := "StrataBaseModel", name := "look", desc := "(I)V" } : Jvm.MethodName) prog_14_method_31_code (7 : Nat) (Option.none : Option Jvm.ClassFile.FieldType)) ∈ tblG := rn_8 (List.mem_of_getElem? (i := 9) rfl) rfl
theorem wd_1690 : (Jvm.Cond.methodLink "StrataBaseModel" (258 : Nat) ({ cls := "StrataBaseModel", name := "isBound", desc := "(I)Z" } : Jvm.MethodName)) ∈ tblG := rn_8 (List.mem_of_getElem? (i := 10) rfl) rfl
theorem wd_1692 : (Jvm.Cond.instanceMethod ({ cls := "StrataBaseModel", name := "isBound", desc := "(I)Z" } : Jvm.MethodName)) ∈ tblG := rn_8 (List.mem_of_getElem? (i := 12) rfl) rfl
theorem wd_1693 : (Jvm.Cond.code ({ cls := "StrataBaseModel", name := "isBound", desc := "(I)Z" } : Jvm.MethodName) prog_14_method_30_code (4 : Nat) (Option.some Jvm.ClassFile.FieldType.boolean)) ∈ tblG := rn_8 (List.mem_of_getElem? (i := 13) rfl) rfl
theorem wd_1694 : (Jvm.Cond.methodLink "StrataBaseModel" (288 : Nat) ({ cls := "StrataBaseModel", name := "isStrata", desc := "()Z" } : Jvm.MethodName)) ∈ tblG := rn_8 (List.mem_of_getElem? (i := 14) rfl) rfl
theorem wd_1696 : (Jvm.Cond.instanceMethod ({ cls := "StrataBaseModel", name := "isStrata", desc := "()Z" } : Jvm.MethodName)) ∈ tblG := rn_8 (List.mem_of_getElem? (i := 16) rfl) rfl
theorem wd_1697 : (Jvm.Cond.code ({ cls := "StrataBaseModel", name := "isStrata", desc := "()Z" } : Jvm.MethodName) prog_14_method_34_code (2 : Nat) (Option.some Jvm.ClassFile.FieldType.boolean)) ∈ tblG := rn_8 (List.mem_of_getElem? (i := 17) rfl) rfl
theorem wd_1698 : (Jvm.Cond.methodLink "StrataBaseModel" (265 : Nat) ({ cls := "StrataBaseModel", name := "dependencies", desc := "()V" } : Jvm.MethodName)) ∈ tblG := rn_8 (List.mem_of_getElem? (i := 18) rfl) rfl
theorem wd_1700 : (Jvm.Cond.instanceMethod ({ cls := "StrataBaseModel", name := "dependencies", desc := "()V" } : Jvm.MethodName)) ∈ tblG := rn_8 (List.mem_of_getElem? (i := 20) rfl) rfl
theorem wd_1701 : (Jvm.Cond.code ({ cls := "StrataBaseModel", name := "dependencies", desc := "()V" } : Jvm.MethodName) prog_14_method_33_code (4 : Nat) (Option.none : Option Jvm.ClassFile.FieldType)) ∈ tblG := rn_8 (List.mem_of_getElem? (i := 21) rfl) rfl
theorem wd_1702 : (Jvm.Cond.methodLink "StrataBaseModel" (291 : Nat) ({ cls := "StrataBaseModel", name := "layStrata", desc := "()V" } : Jvm.MethodName)) ∈ tblG := rn_8 (List.mem_of_getElem? (i := 22) rfl) rfl
theorem wd_1704 : (Jvm.Cond.instanceMethod ({ cls := "StrataBaseModel", name := "layStrata", desc := "()V" } : Jvm.MethodName)) ∈ tblG := rn_8 (List.mem_of_getElem? (i := 24) rfl) rfl
theorem wd_1705 : (Jvm.Cond.code ({ cls := "StrataBaseModel", name := "layStrata", desc := "()V" } : Jvm.MethodName) prog_14_method_35_code (6 : Nat) (Option.none : Option Jvm.ClassFile.FieldType)) ∈ tblG := rn_8 (List.mem_of_getElem? (i := 25) rfl) rfl
theorem wd_1706 : (Jvm.Cond.methodLink "StrataBaseLaw" (79 : Nat) ({ cls := "StrataBaseModel", name := "run", desc := "()I" } : Jvm.MethodName)) ∈ tblG := rn_8 (List.mem_of_getElem? (i := 26) rfl) rfl
theorem wd_1707 : (Jvm.Cond.instanceMethod ({ cls := "StrataBaseModel", name := "run", desc := "()I" } : Jvm.MethodName)) ∈ tblG := rn_8 (List.mem_of_getElem? (i := 27) rfl) rfl
theorem wd_1708 : (Jvm.Cond.selects "StrataBaseModel" ({ cls := "StrataBaseModel", name := "run", desc := "()I" } : Jvm.MethodName) ({ cls := "StrataBaseModel", name := "run", desc := "()I" } : Jvm.MethodName)) ∈ tblG := rn_8 (List.mem_of_getElem? (i := 28) rfl) rfl
theorem wd_1709 : (Jvm.Cond.code ({ cls := "StrataBaseModel", name := "run", desc := "()I" } : Jvm.MethodName) prog_14_method_47_code (3 : Nat) (Option.some Jvm.ClassFile.FieldType.int)) ∈ tblG := rn_8 (List.mem_of_getElem? (i := 29) rfl) rfl
theorem wd_1710 : (Jvm.Cond.methodLink "StrataBaseModel" (349 : Nat) ({ cls := "StrataBaseModel", name := "follow", desc := "(I)Z" } : Jvm.MethodName)) ∈ tblG := rn_8 (List.mem_of_getElem? (i := 30) rfl) rfl
theorem wd_1712 : (Jvm.Cond.instanceMethod ({ cls := "StrataBaseModel", name := "follow", desc := "(I)Z" } : Jvm.MethodName)) ∈ tblG := rn_8 (List.mem_of_getElem? (i := 32) rfl) rfl
theorem wd_1713 : (Jvm.Cond.code ({ cls := "StrataBaseModel", name := "follow", desc := "(I)Z" } : Jvm.MethodName) prog_14_method_46_code (6 : Nat) (Option.some Jvm.ClassFile.FieldType.boolean)) ∈ tblG := rn_8 (List.mem_of_getElem? (i := 33) rfl) rfl
theorem wd_1714 : (Jvm.Cond.methodLink "StrataBaseModel" (345 : Nat) ({ cls := "StrataBaseModel", name := "join", desc := "(IIZ)Z" } : Jvm.MethodName)) ∈ tblG := rn_8 (List.mem_of_getElem? (i := 34) rfl) rfl
theorem wd_1716 : (Jvm.Cond.instanceMethod ({ cls := "StrataBaseModel", name := "join", desc := "(IIZ)Z" } : Jvm.MethodName)) ∈ tblG := rn_8 (List.mem_of_getElem? (i := 36) rfl) rfl
theorem wd_1717 : (Jvm.Cond.code ({ cls := "StrataBaseModel", name := "join", desc := "(IIZ)Z" } : Jvm.MethodName) prog_14_method_44_code (6 : Nat) (Option.some Jvm.ClassFile.FieldType.boolean)) ∈ tblG := rn_8 (List.mem_of_getElem? (i := 37) rfl) rfl
theorem wd_1718 : (Jvm.Cond.methodLink "StrataBaseModel" (327 : Nat) ({ cls := "StrataBaseModel", name := "free", desc := "(I)V" } : Jvm.MethodName)) ∈ tblG := rn_8 (List.mem_of_getElem? (i := 38) rfl) rfl
theorem wd_1720 : (Jvm.Cond.instanceMethod ({ cls := "StrataBaseModel", name := "free", desc := "(I)V" } : Jvm.MethodName)) ∈ tblG := rn_8 (List.mem_of_getElem? (i := 40) rfl) rfl
theorem wd_1721 : (Jvm.Cond.code ({ cls := "StrataBaseModel", name := "free", desc := "(I)V" } : Jvm.MethodName) prog_14_method_40_code (3 : Nat) (Option.none : Option Jvm.ClassFile.FieldType)) ∈ tblG := rn_8 (List.mem_of_getElem? (i := 41) rfl) rfl
theorem wd_1722 : (Jvm.Cond.methodLink "StrataBaseModel" (330 : Nat) ({ cls := "StrataBaseModel", name := "holds", desc := "()Z" } : Jvm.MethodName)) ∈ tblG := rn_8 (List.mem_of_getElem? (i := 42) rfl) rfl
theorem wd_1724 : (Jvm.Cond.instanceMethod ({ cls := "StrataBaseModel", name := "holds", desc := "()Z" } : Jvm.MethodName)) ∈ tblG := rn_8 (List.mem_of_getElem? (i := 44) rfl) rfl
theorem wd_1725 : (Jvm.Cond.code ({ cls := "StrataBaseModel", name := "holds", desc := "()Z" } : Jvm.MethodName) prog_14_method_43_code (9 : Nat) (Option.some Jvm.ClassFile.FieldType.boolean)) ∈ tblG := rn_8 (List.mem_of_getElem? (i := 45) rfl) rfl
theorem wd_1726 : (Jvm.Cond.methodLink "StrataBaseModel" (314 : Nat) ({ cls := "StrataBaseModel", name := "value", desc := "(I)I" } : Jvm.MethodName)) ∈ tblG := rn_8 (List.mem_of_getElem? (i := 46) rfl) rfl
theorem wd_1728 : (Jvm.Cond.instanceMethod ({ cls := "StrataBaseModel", name := "value", desc := "(I)I" } : Jvm.MethodName)) ∈ tblG := rn_8 (List.mem_of_getElem? (i := 48) rfl) rfl
theorem wd_1729 : (Jvm.Cond.code ({ cls := "StrataBaseModel", name := "value", desc := "(I)I" } : Jvm.MethodName) prog_14_method_39_code (2 : Nat) (Option.some Jvm.ClassFile.FieldType.int)) ∈ tblG := rn_8 (List.mem_of_getElem? (i := 49) rfl) rfl
theorem wd_1730 : (Jvm.Cond.methodLink "StrataBaseModel" (317 : Nat) ({ cls := "StrataBaseModel", name := "order", desc := "(II)I" } : Jvm.MethodName)) ∈ tblG := rn_8 (List.mem_of_getElem? (i := 50) rfl) rfl
theorem wd_1732 : (Jvm.Cond.instanceMethod ({ cls := "StrataBaseModel", name := "order", desc := "(II)I" } : Jvm.MethodName)) ∈ tblG := rn_8 (List.mem_of_getElem? (i := 52) rfl) rfl
theorem wd_1733 : (Jvm.Cond.code ({ cls := "StrataBaseModel", name := "order", desc := "(II)I" } : Jvm.MethodName) prog_14_method_42_code (8 : Nat) (Option.some Jvm.ClassFile.FieldType.int)) ∈ tblG := rn_8 (List.mem_of_getElem? (i := 53) rfl) rfl
theorem wd_1734 : (Jvm.Cond.methodLink "StrataBaseModel" (311 : Nat) ({ cls := "StrataBaseModel", name := "arity", desc := "(I)I" } : Jvm.MethodName)) ∈ tblG := rn_8 (List.mem_of_getElem? (i := 54) rfl) rfl
theorem wd_1736 : (Jvm.Cond.instanceMethod ({ cls := "StrataBaseModel", name := "arity", desc := "(I)I" } : Jvm.MethodName)) ∈ tblG := rn_8 (List.mem_of_getElem? (i := 56) rfl) rfl
theorem wd_1737 : (Jvm.Cond.code ({ cls := "StrataBaseModel", name := "arity", desc := "(I)I" } : Jvm.MethodName) prog_14_method_38_code (2 : Nat) (Option.some Jvm.ClassFile.FieldType.int)) ∈ tblG := rn_8 (List.mem_of_getElem? (i := 57) rfl) rfl
theorem wd_1738 : (Jvm.Cond.methodLink "StrataBaseModel" (321 : Nat) ({ cls := "StrataBaseModel", name := "find", desc := "(II)I" } : Jvm.MethodName)) ∈ tblG := rn_8 (List.mem_of_getElem? (i := 58) rfl) rfl
theorem wd_1740 : (Jvm.Cond.instanceMethod ({ cls := "StrataBaseModel", name := "find", desc := "(II)I" } : Jvm.MethodName)) ∈ tblG := rn_8 (List.mem_of_getElem? (i := 60) rfl) rfl
theorem wd_1741 : (Jvm.Cond.code ({ cls := "StrataBaseModel", name := "find", desc := "(II)I" } : Jvm.MethodName) prog_14_method_37_code (7 : Nat) (Option.some Jvm.ClassFile.FieldType.int)) ∈ tblG := rn_8 (List.mem_of_getElem? (i := 61) rfl) rfl
theorem wd_1742 : (Jvm.Cond.constant "StrataBaseModel" (306 : Nat) (40503 : Int32)) ∈ tblG := rn_8 (List.mem_of_getElem? (i := 62) rfl) rfl
theorem wd_1743 : (Jvm.Cond.constant "StrataBaseModel" (307 : Nat) (65535 : Int32)) ∈ tblG := rn_8 (List.mem_of_getElem? (i := 63) rfl) rfl
theorem wd_1744 : (Jvm.Cond.methodLink "StrataBaseModel" (333 : Nat) ({ cls := "StrataBaseModel", name := "row", desc := "()Z" } : Jvm.MethodName)) ∈ tblG := rn_8 (List.mem_of_getElem? (i := 64) rfl) rfl
theorem wd_1746 : (Jvm.Cond.instanceMethod ({ cls := "StrataBaseModel", name := "row", desc := "()Z" } : Jvm.MethodName)) ∈ tblG := rn_8 (List.mem_of_getElem? (i := 66) rfl) rfl
theorem wd_1747 : (Jvm.Cond.code ({ cls := "StrataBaseModel", name := "row", desc := "()Z" } : Jvm.MethodName) prog_14_method_48_code (4 : Nat) (Option.some Jvm.ClassFile.FieldType.boolean)) ∈ tblG := rn_8 (List.mem_of_getElem? (i := 67) rfl) rfl
theorem wd_1748 : (Jvm.Cond.methodLink "StrataBaseModel" (336 : Nat) ({ cls := "StrataBaseModel", name := "fact", desc := "(I)Z" } : Jvm.MethodName)) ∈ tblG := rn_8 (List.mem_of_getElem? (i := 68) rfl) rfl
theorem wd_1750 : (Jvm.Cond.instanceMethod ({ cls := "StrataBaseModel", name := "fact", desc := "(I)Z" } : Jvm.MethodName)) ∈ tblG := rn_8 (List.mem_of_getElem? (i := 70) rfl) rfl
theorem wd_1751 : (Jvm.Cond.code ({ cls := "StrataBaseModel", name := "fact", desc := "(I)Z" } : Jvm.MethodName) prog_14_method_45_code (4 : Nat) (Option.some Jvm.ClassFile.FieldType.boolean)) ∈ tblG := rn_8 (List.mem_of_getElem? (i := 71) rfl) rfl
theorem wd_1752 : (Jvm.Cond.methodLink "StrataBaseModel" (339 : Nat) ({ cls := "StrataBaseModel", name := "isFact", desc := "(III)Z" } : Jvm.MethodName)) ∈ tblG := rn_8 (List.mem_of_getElem? (i := 72) rfl) rfl
theorem wd_1754 : (Jvm.Cond.instanceMethod ({ cls := "StrataBaseModel", name := "isFact", desc := "(III)Z" } : Jvm.MethodName)) ∈ tblG := rn_8 (List.mem_of_getElem? (i := 74) rfl) rfl
theorem wd_1755 : (Jvm.Cond.code ({ cls := "StrataBaseModel", name := "isFact", desc := "(III)Z" } : Jvm.MethodName) prog_14_method_41_code (7 : Nat) (Option.some Jvm.ClassFile.FieldType.boolean)) ∈ tblG := rn_8 (List.mem_of_getElem? (i := 75) rfl) rfl
theorem wd_1756 : (Jvm.Cond.methodLink "StrataBaseLaw" (82 : Nat) ({ cls := "StrataBaseModel", name := "ask", desc := "()I" } : Jvm.MethodName)) ∈ tblG := rn_8 (List.mem_of_getElem? (i := 76) rfl) rfl
theorem wd_1757 : (Jvm.Cond.instanceMethod ({ cls := "StrataBaseModel", name := "ask", desc := "()I" } : Jvm.MethodName)) ∈ tblG := rn_8 (List.mem_of_getElem? (i := 77) rfl) rfl
theorem wd_1758 : (Jvm.Cond.selects "StrataBaseModel" ({ cls := "StrataBaseModel", name := "ask", desc := "()I" } : Jvm.MethodName) ({ cls := "StrataBaseModel", name := "ask", desc := "()I" } : Jvm.MethodName)) ∈ tblG := rn_8 (List.mem_of_getElem? (i := 78) rfl) rfl
theorem wd_1759 : (Jvm.Cond.code ({ cls := "StrataBaseModel", name := "ask", desc := "()I" } : Jvm.MethodName) prog_14_method_53_code (3 : Nat) (Option.some Jvm.ClassFile.FieldType.int)) ∈ tblG := rn_8 (List.mem_of_getElem? (i := 79) rfl) rfl
theorem wd_1760 : (Jvm.Cond.methodLink "StrataBaseModel" (364 : Nat) ({ cls := "StrataBaseModel", name := "beginQuestion", desc := "()V" } : Jvm.MethodName)) ∈ tblG := rn_8 (List.mem_of_getElem? (i := 80) rfl) rfl
theorem wd_1762 : (Jvm.Cond.instanceMethod ({ cls := "StrataBaseModel", name := "beginQuestion", desc := "()V" } : Jvm.MethodName)) ∈ tblG := rn_8 (List.mem_of_getElem? (i := 82) rfl) rfl
theorem wd_1763 : (Jvm.Cond.code ({ cls := "StrataBaseModel", name := "beginQuestion", desc := "()V" } : Jvm.MethodName) prog_14_method_52_code (1 : Nat) (Option.none : Option Jvm.ClassFile.FieldType)) ∈ tblG := rn_8 (List.mem_of_getElem? (i := 83) rfl) rfl
theorem wd_1764 : (Jvm.Cond.constant "StrataBaseModel" (367 : Nat) (131072 : Int32)) ∈ tblG := rn_8 (List.mem_of_getElem? (i := 84) rfl) rfl
theorem wd_1765 : (Jvm.Cond.methodLink "StrataBaseModel" (368 : Nat) ({ cls := "StrataBaseModel", name := "readQuestion", desc := "()Z" } : Jvm.MethodName)) ∈ tblG := rn_8 (List.mem_of_getElem? (i := 85) rfl) rfl
theorem wd_1767 : (Jvm.Cond.instanceMethod ({ cls := "StrataBaseModel", name := "readQuestion", desc := "()Z" } : Jvm.MethodName)) ∈ tblG := rn_8 (List.mem_of_getElem? (i := 87) rfl) rfl
theorem wd_1768 : (Jvm.Cond.code ({ cls := "StrataBaseModel", name := "readQuestion", desc := "()Z" } : Jvm.MethodName) prog_14_method_51_code (1 : Nat) (Option.some Jvm.ClassFile.FieldType.boolean)) ∈ tblG := rn_8 (List.mem_of_getElem? (i := 88) rfl) rfl
theorem wd_1769 : (Jvm.Cond.methodLink "StrataBaseModel" (361 : Nat) ({ cls := "StrataBaseModel", name := "ownArities", desc := "()V" } : Jvm.MethodName)) ∈ tblG := rn_8 (List.mem_of_getElem? (i := 89) rfl) rfl
theorem wd_1771 : (Jvm.Cond.instanceMethod ({ cls := "StrataBaseModel", name := "ownArities", desc := "()V" } : Jvm.MethodName)) ∈ tblG := rn_8 (List.mem_of_getElem? (i := 91) rfl) rfl
theorem wd_1772 : (Jvm.Cond.code ({ cls := "StrataBaseModel", name := "ownArities", desc := "()V" } : Jvm.MethodName) prog_14_method_49_code (6 : Nat) (Option.none : Option Jvm.ClassFile.FieldType)) ∈ tblG := rn_8 (List.mem_of_getElem? (i := 92) rfl) rfl
theorem wd_1773 : (Jvm.Cond.methodLink "StrataBaseModel" (358 : Nat) ({ cls := "StrataBaseModel", name := "isName", desc := "(II)Z" } : Jvm.MethodName)) ∈ tblG := rn_8 (List.mem_of_getElem? (i := 93) rfl) rfl
theorem wd_1775 : (Jvm.Cond.instanceMethod ({ cls := "StrataBaseModel", name := "isName", desc := "(II)Z" } : Jvm.MethodName)) ∈ tblG := rn_8 (List.mem_of_getElem? (i := 95) rfl) rfl
theorem wd_1776 : (Jvm.Cond.code ({ cls := "StrataBaseModel", name := "isName", desc := "(II)Z" } : Jvm.MethodName) prog_14_method_50_code (4 : Nat) (Option.some Jvm.ClassFile.FieldType.boolean)) ∈ tblG := rn_8 (List.mem_of_getElem? (i := 96) rfl) rfl
theorem wd_1777 : (Jvm.Cond.methodLink "StrataBaseModel" (371 : Nat) ({ cls := "StrataBaseModel", name := "sort", desc := "()V" } : Jvm.MethodName)) ∈ tblG := rn_8 (List.mem_of_getElem? (i := 97) rfl) rfl
theorem wd_1779 : (Jvm.Cond.instanceMethod ({ cls := "StrataBaseModel", name := "sort", desc := "()V" } : Jvm.MethodName)) ∈ tblG := rn_8 (List.mem_of_getElem? (i := 99) rfl) rfl
theorem wd_1780 : (Jvm.Cond.code ({ cls := "StrataBaseModel", name := "sort", desc := "()V" } : Jvm.MethodName) prog_14_method_54_code (4 : Nat) (Option.none : Option Jvm.ClassFile.FieldType)) ∈ tblG := rn_8 (List.mem_of_getElem? (i := 100) rfl) rfl
theorem wd_1781 : (Jvm.Cond.methodLink "StrataBaseModel" (374 : Nat) ({ cls := "StrataBaseModel", name := "isBehind", desc := "(II)Z" } : Jvm.MethodName)) ∈ tblG := rn_8 (List.mem_of_getElem? (i := 101) rfl) rfl
theorem wd_1783 : (Jvm.Cond.instanceMethod ({ cls := "StrataBaseModel", name := "isBehind", desc := "(II)Z" } : Jvm.MethodName)) ∈ tblG := rn_8 (List.mem_of_getElem? (i := 103) rfl) rfl
theorem wd_1784 : (Jvm.Cond.code ({ cls := "StrataBaseModel", name := "isBehind", desc := "(II)Z" } : Jvm.MethodName) prog_14_method_55_code (5 : Nat) (Option.some Jvm.ClassFile.FieldType.boolean)) ∈ tblG := rn_8 (List.mem_of_getElem? (i := 104) rfl) rfl
theorem wd_1785 : (Jvm.Cond.methodLink "StrataBaseLaw" (86 : Nat) ({ cls := "StrataBaseModel", name := "columns", desc := "()I" } : Jvm.MethodName)) ∈ tblG := rn_8 (List.mem_of_getElem? (i := 105) rfl) rfl
theorem wd_1786 : (Jvm.Cond.instanceMethod ({ cls := "StrataBaseModel", name := "columns", desc := "()I" } : Jvm.MethodName)) ∈ tblG := rn_8 (List.mem_of_getElem? (i := 106) rfl) rfl
theorem wd_1787 : (Jvm.Cond.selects "StrataBaseModel" ({ cls := "StrataBaseModel", name := "columns", desc := "()I" } : Jvm.MethodName) ({ cls := "StrataBaseModel", name := "columns", desc := "()I" } : Jvm.MethodName)) ∈ tblG := rn_8 (List.mem_of_getElem? (i := 107) rfl) rfl
theorem wd_1788 : (Jvm.Cond.code ({ cls := "StrataBaseModel", name := "columns", desc := "()I" } : Jvm.MethodName) prog_14_method_56_code (1 : Nat) (Option.some Jvm.ClassFile.FieldType.int)) ∈ tblG := rn_8 (List.mem_of_getElem? (i := 108) rfl) rfl
theorem wd_1789 : (Jvm.Cond.methodLink "StrataBaseLaw" (90 : Nat) ({ cls := "StrataBaseModel", name := "isNumber", desc := "(II)Z" } : Jvm.MethodName)) ∈ tblG := rn_8 (List.mem_of_getElem? (i := 109) rfl) rfl
theorem wd_1790 : (Jvm.Cond.instanceMethod ({ cls := "StrataBaseModel", name := "isNumber", desc := "(II)Z" } : Jvm.MethodName)) ∈ tblG := rn_8 (List.mem_of_getElem? (i := 110) rfl) rfl
theorem wd_1791 : (Jvm.Cond.selects "StrataBaseModel" ({ cls := "StrataBaseModel", name := "isNumber", desc := "(II)Z" } : Jvm.MethodName) ({ cls := "StrataBaseModel", name := "isNumber", desc := "(II)Z" } : Jvm.MethodName)) ∈ tblG := rn_8 (List.mem_of_getElem? (i := 111) rfl) rfl
theorem wd_1792 : (Jvm.Cond.code ({ cls := "StrataBaseModel", name := "isNumber", desc := "(II)Z" } : Jvm.MethodName) prog_14_method_58_code (4 : Nat) (Option.some Jvm.ClassFile.FieldType.boolean)) ∈ tblG := rn_8 (List.mem_of_getElem? (i := 112) rfl) rfl
theorem wd_1793 : (Jvm.Cond.methodLink "StrataBaseModel" (377 : Nat) ({ cls := "StrataBaseModel", name := "cell", desc := "(II)I" } : Jvm.MethodName)) ∈ tblG := rn_8 (List.mem_of_getElem? (i := 113) rfl) rfl
theorem wd_1795 : (Jvm.Cond.instanceMethod ({ cls := "StrataBaseModel", name := "cell", desc := "(II)I" } : Jvm.MethodName)) ∈ tblG := rn_8 (List.mem_of_getElem? (i := 115) rfl) rfl
theorem wd_1796 : (Jvm.Cond.code ({ cls := "StrataBaseModel", name := "cell", desc := "(II)I" } : Jvm.MethodName) prog_14_method_57_code (3 : Nat) (Option.some Jvm.ClassFile.FieldType.int)) ∈ tblG := rn_8 (List.mem_of_getElem? (i := 116) rfl) rfl
theorem wd_1797 : (Jvm.Cond.methodLink "StrataBaseLaw" (93 : Nat) ({ cls := "StrataBaseModel", name := "number", desc := "(II)I" } : Jvm.MethodName)) ∈ tblG := rn_8 (List.mem_of_getElem? (i := 117) rfl) rfl
theorem wd_1798 : (Jvm.Cond.instanceMethod ({ cls := "StrataBaseModel", name := "number", desc := "(II)I" } : Jvm.MethodName)) ∈ tblG := rn_8 (List.mem_of_getElem? (i := 118) rfl) rfl
theorem wd_1799 : (Jvm.Cond.selects "StrataBaseModel" ({ cls := "StrataBaseModel", name := "number", desc := "(II)I" } : Jvm.MethodName) ({ cls := "StrataBaseModel", name := "number", desc := "(II)I" } : Jvm.MethodName)) ∈ tblG := rn_8 (List.mem_of_getElem? (i := 119) rfl) rfl
theorem wd_1800 : (Jvm.Cond.code ({ cls := "StrataBaseModel", name := "number", desc := "(II)I" } : Jvm.MethodName) prog_14_method_59_code (4 : Nat) (Option.some Jvm.ClassFile.FieldType.int)) ∈ tblG := rn_8 (List.mem_of_getElem? (i := 120) rfl) rfl
theorem wd_1801 : (Jvm.Cond.methodLink "StrataBaseLaw" (97 : Nat) ({ cls := "StrataBaseModel", name := "letter", desc := "(III)I" } : Jvm.MethodName)) ∈ tblG := rn_8 (List.mem_of_getElem? (i := 121) rfl) rfl
theorem wd_1802 : (Jvm.Cond.instanceMethod ({ cls := "StrataBaseModel", name := "letter", desc := "(III)I" } : Jvm.MethodName)) ∈ tblG := rn_8 (List.mem_of_getElem? (i := 122) rfl) rfl
theorem wd_1803 : (Jvm.Cond.selects "StrataBaseModel" ({ cls := "StrataBaseModel", name := "letter", desc := "(III)I" } : Jvm.MethodName) ({ cls := "StrataBaseModel", name := "letter", desc := "(III)I" } : Jvm.MethodName)) ∈ tblG := rn_8 (List.mem_of_getElem? (i := 123) rfl) rfl
theorem wd_1804 : (Jvm.Cond.code ({ cls := "StrataBaseModel", name := "letter", desc := "(III)I" } : Jvm.MethodName) prog_14_method_60_code (5 : Nat) (Option.some Jvm.ClassFile.FieldType.int)) ∈ tblG := rn_8 (List.mem_of_getElem? (i := 124) rfl) rfl
theorem wd_1805 : (Jvm.Cond.methodLink "StrataBaseLaw" (100 : Nat) ({ cls := "StrataBaseModel", name := "stage", desc := "()I" } : Jvm.MethodName)) ∈ tblG := rn_8 (List.mem_of_getElem? (i := 125) rfl) rfl
theorem wd_1806 : (Jvm.Cond.instanceMethod ({ cls := "StrataBaseModel", name := "stage", desc := "()I" } : Jvm.MethodName)) ∈ tblG := rn_8 (List.mem_of_getElem? (i := 126) rfl) rfl
theorem wd_1807 : (Jvm.Cond.selects "StrataBaseModel" ({ cls := "StrataBaseModel", name := "stage", desc := "()I" } : Jvm.MethodName) ({ cls := "StrataBaseModel", name := "stage", desc := "()I" } : Jvm.MethodName)) ∈ tblG := rn_8 (List.mem_of_getElem? (i := 127) rfl) rfl
theorem wd_1808 : (Jvm.Cond.code ({ cls := "StrataBaseModel", name := "stage", desc := "()I" } : Jvm.MethodName) prog_14_method_61_code (5 : Nat) (Option.some Jvm.ClassFile.FieldType.int)) ∈ tblG := rn_8 (List.mem_of_getElem? (i := 128) rfl) rfl
theorem wd_1809 : (Jvm.Cond.methodLink "StrataBaseModel" (380 : Nat) ({ cls := "StrataBaseModel", name := "ground", desc := "()Z" } : Jvm.MethodName)) ∈ tblG := rn_8 (List.mem_of_getElem? (i := 129) rfl) rfl
theorem wd_1811 : (Jvm.Cond.instanceMethod ({ cls := "StrataBaseModel", name := "ground", desc := "()Z" } : Jvm.MethodName)) ∈ tblG := rn_8 (List.mem_of_getElem? (i := 131) rfl) rfl
theorem wd_1812 : (Jvm.Cond.code ({ cls := "StrataBaseModel", name := "ground", desc := "()Z" } : Jvm.MethodName) prog_14_method_62_code (4 : Nat) (Option.some Jvm.ClassFile.FieldType.boolean)) ∈ tblG := rn_8 (List.mem_of_getElem? (i := 132) rfl) rfl
theorem wd_1813 : (Jvm.Cond.methodLink "StrataBaseLaw" (104 : Nat) ({ cls := "StrataBaseModel", name := "stratum", desc := "()I" } : Jvm.MethodName)) ∈ tblG := rn_8 (List.mem_of_getElem? (i := 133) rfl) rfl
theorem wd_1814 : (Jvm.Cond.instanceMethod ({ cls := "StrataBaseModel", name := "stratum", desc := "()I" } : Jvm.MethodName)) ∈ tblG := rn_8 (List.mem_of_getElem? (i := 134) rfl) rfl
theorem wd_1815 : (Jvm.Cond.selects "StrataBaseModel" ({ cls := "StrataBaseModel", name := "stratum", desc := "()I" } : Jvm.MethodName) ({ cls := "StrataBaseModel", name := "stratum", desc := "()I" } : Jvm.MethodName)) ∈ tblG := rn_8 (List.mem_of_getElem? (i := 135) rfl) rfl
theorem wd_1816 : (Jvm.Cond.code ({ cls := "StrataBaseModel", name := "stratum", desc := "()I" } : Jvm.MethodName) prog_14_method_63_code (3 : Nat) (Option.some Jvm.ClassFile.FieldType.int)) ∈ tblG := rn_8 (List.mem_of_getElem? (i := 136) rfl) rfl
theorem wd_1817 : (Jvm.Cond.methodLink "StrataBaseLaw" (108 : Nat) ({ cls := "StrataBaseModel", name := "count", desc := "(I)I" } : Jvm.MethodName)) ∈ tblG := rn_8 (List.mem_of_getElem? (i := 137) rfl) rfl
theorem wd_1818 : (Jvm.Cond.instanceMethod ({ cls := "StrataBaseModel", name := "count", desc := "(I)I" } : Jvm.MethodName)) ∈ tblG := rn_8 (List.mem_of_getElem? (i := 138) rfl) rfl
theorem wd_1819 : (Jvm.Cond.selects "StrataBaseModel" ({ cls := "StrataBaseModel", name := "count", desc := "(I)I" } : Jvm.MethodName) ({ cls := "StrataBaseModel", name := "count", desc := "(I)I" } : Jvm.MethodName)) ∈ tblG := rn_8 (List.mem_of_getElem? (i := 139) rfl) rfl
theorem wd_1820 : (Jvm.Cond.code ({ cls := "StrataBaseModel", name := "count", desc := "(I)I" } : Jvm.MethodName) prog_14_method_64_code (2 : Nat) (Option.some Jvm.ClassFile.FieldType.int)) ∈ tblG := rn_8 (List.mem_of_getElem? (i := 140) rfl) rfl
theorem sl_Re_begin : Cond.selects "StrataBase$Reader" my_Re_begin my_Re_begin ∈ tblG := tg_sel (List.mem_of_getElem? (i := 0) rfl) rfl
theorem sl_Re_beginBody : Cond.selects "StrataBase$Reader" my_Re_beginBody my_Re_beginBody ∈ tblG := tg_sel (List.mem_of_getElem? (i := 1) rfl) rfl
theorem sl_To_skipBlanks : Cond.selects "StrataBase$Tokens" my_To_skipBlanks my_To_skipBlanks ∈ tblG := tg_sel (List.mem_of_getElem? (i := 2) rfl) rfl
theorem sl_To_readWord : Cond.selects "StrataBase$Tokens" my_To_readWord my_To_readWord ∈ tblG := tg_sel (List.mem_of_getElem? (i := 3) rfl) rfl
theorem sl_To_isNot : Cond.selects "StrataBase$Tokens" my_To_isNot my_To_isNot ∈ tblG := tg_sel (List.mem_of_getElem? (i := 4) rfl) rfl
theorem sl_To_readNumber : Cond.selects "StrataBase$Tokens" my_To_readNumber my_To_readNumber ∈ tblG := tg_sel (List.mem_of_getElem? (i := 5) rfl) rfl
theorem sl_To_readSign : Cond.selects "StrataBase$Tokens" my_To_readSign my_To_readSign ∈ tblG := tg_sel (List.mem_of_getElem? (i := 6) rfl) rfl
theorem sl_To_takes : Cond.selects "StrataBase$Tokens" my_To_takes my_To_takes ∈ tblG := tg_sel (List.mem_of_getElem? (i := 7) rfl) rfl
theorem sl_Re_settleBefore : Cond.selects "StrataBase$Reader" my_Re_settleBefore my_Re_settleBefore ∈ tblG := tg_sel (List.mem_of_getElem? (i := 8) rfl) rfl
theorem sl_Re_decideName : Cond.selects "StrataBase$Reader" my_Re_decideName my_Re_decideName ∈ tblG := tg_sel (List.mem_of_getElem? (i := 9) rfl) rfl
theorem sl_Re_openComparison : Cond.selects "StrataBase$Reader" my_Re_openComparison my_Re_openComparison ∈ tblG := tg_sel (List.mem_of_getElem? (i := 10) rfl) rfl
theorem sl_Re_addSideConstant : Cond.selects "StrataBase$Reader" my_Re_addSideConstant my_Re_addSideConstant ∈ tblG := tg_sel (List.mem_of_getElem? (i := 11) rfl) rfl
theorem sl_Re_addConstant : Cond.selects "StrataBase$Reader" my_Re_addConstant my_Re_addConstant ∈ tblG := tg_sel (List.mem_of_getElem? (i := 12) rfl) rfl
theorem sl_Re_stop : Cond.selects "StrataBase$Reader" my_Re_stop my_Re_stop ∈ tblG := tg_sel (List.mem_of_getElem? (i := 13) rfl) rfl
theorem sl_Re_namePredicate : Cond.selects "StrataBase$Reader" my_Re_namePredicate my_Re_namePredicate ∈ tblG := tg_sel (List.mem_of_getElem? (i := 14) rfl) rfl
theorem sl_Re_closeAtom : Cond.selects "StrataBase$Reader" my_Re_closeAtom my_Re_closeAtom ∈ tblG := tg_sel (List.mem_of_getElem? (i := 15) rfl) rfl
theorem sl_Re_checkSize : Cond.selects "StrataBase$Reader" my_Re_checkSize my_Re_checkSize ∈ tblG := tg_sel (List.mem_of_getElem? (i := 16) rfl) rfl
theorem sl_Re_checkOwnSize : Cond.selects "StrataBase$Reader" my_Re_checkOwnSize my_Re_checkOwnSize ∈ tblG := tg_sel (List.mem_of_getElem? (i := 17) rfl) rfl
theorem sl_Re_note : Cond.selects "StrataBase$Reader" my_Re_note my_Re_note ∈ tblG := tg_sel (List.mem_of_getElem? (i := 18) rfl) rfl
theorem sl_Re_beginClause : Cond.selects "StrataBase$Reader" my_Re_beginClause my_Re_beginClause ∈ tblG := tg_sel (List.mem_of_getElem? (i := 19) rfl) rfl
theorem sl_Re_refuse : Cond.selects "StrataBase$Reader" my_Re_refuse my_Re_refuse ∈ tblG := tg_sel (List.mem_of_getElem? (i := 20) rfl) rfl
theorem sl_Re_readPredicate : Cond.selects "StrataBase$Reader" my_Re_readPredicate my_Re_readPredicate ∈ tblG := tg_sel (List.mem_of_getElem? (i := 21) rfl) rfl
theorem sl_Re_markName : Cond.selects "StrataBase$Reader" my_Re_markName my_Re_markName ∈ tblG := tg_sel (List.mem_of_getElem? (i := 22) rfl) rfl
theorem sl_Re_readTerm : Cond.selects "StrataBase$Reader" my_Re_readTerm my_Re_readTerm ∈ tblG := tg_sel (List.mem_of_getElem? (i := 23) rfl) rfl
theorem sl_Re_addVariable : Cond.selects "StrataBase$Reader" my_Re_addVariable my_Re_addVariable ∈ tblG := tg_sel (List.mem_of_getElem? (i := 24) rfl) rfl
theorem sl_Re_addAtomConstant : Cond.selects "StrataBase$Reader" my_Re_addAtomConstant my_Re_addAtomConstant ∈ tblG := tg_sel (List.mem_of_getElem? (i := 25) rfl) rfl
theorem sl_Re_readTermEnd : Cond.selects "StrataBase$Reader" my_Re_readTermEnd my_Re_readTermEnd ∈ tblG := tg_sel (List.mem_of_getElem? (i := 26) rfl) rfl
theorem sl_Re_readHeadEnd : Cond.selects "StrataBase$Reader" my_Re_readHeadEnd my_Re_readHeadEnd ∈ tblG := tg_sel (List.mem_of_getElem? (i := 27) rfl) rfl
theorem sl_Re_closeClause : Cond.selects "StrataBase$Reader" my_Re_closeClause my_Re_closeClause ∈ tblG := tg_sel (List.mem_of_getElem? (i := 28) rfl) rfl
theorem sl_Re_beginLiteral : Cond.selects "StrataBase$Reader" my_Re_beginLiteral my_Re_beginLiteral ∈ tblG := tg_sel (List.mem_of_getElem? (i := 29) rfl) rfl
theorem sl_Re_addSide : Cond.selects "StrataBase$Reader" my_Re_addSide my_Re_addSide ∈ tblG := tg_sel (List.mem_of_getElem? (i := 30) rfl) rfl
theorem sl_Re_readComparison : Cond.selects "StrataBase$Reader" my_Re_readComparison my_Re_readComparison ∈ tblG := tg_sel (List.mem_of_getElem? (i := 31) rfl) rfl
theorem sl_Re_readRightSide : Cond.selects "StrataBase$Reader" my_Re_readRightSide my_Re_readRightSide ∈ tblG := tg_sel (List.mem_of_getElem? (i := 32) rfl) rfl
theorem sl_Re_compareSides : Cond.selects "StrataBase$Reader" my_Re_compareSides my_Re_compareSides ∈ tblG := tg_sel (List.mem_of_getElem? (i := 33) rfl) rfl
theorem sl_Re_readLiteralEnd : Cond.selects "StrataBase$Reader" my_Re_readLiteralEnd my_Re_readLiteralEnd ∈ tblG := tg_sel (List.mem_of_getElem? (i := 34) rfl) rfl
theorem sl_Re_expectEnd : Cond.selects "StrataBase$Reader" my_Re_expectEnd my_Re_expectEnd ∈ tblG := tg_sel (List.mem_of_getElem? (i := 35) rfl) rfl
theorem sl_Pr_findReached : Cond.selects "StrataBase$Program" my_Pr_findReached my_Pr_findReached ∈ tblG := tg_sel (List.mem_of_getElem? (i := 36) rfl) rfl
theorem sl_SB_forgetTape : Cond.selects "StrataBase" my_SB_forgetTape my_SB_forgetTape ∈ tblG := tg_sel (List.mem_of_getElem? (i := 37) rfl) rfl
theorem sl_Pr_settleTerms : Cond.selects "StrataBase$Program" my_Pr_settleTerms my_Pr_settleTerms ∈ tblG := tg_sel (List.mem_of_getElem? (i := 38) rfl) rfl
theorem sl_Pr_raiseStrata : Cond.selects "StrataBase$Program" my_Pr_raiseStrata my_Pr_raiseStrata ∈ tblG := tg_sel (List.mem_of_getElem? (i := 39) rfl) rfl
theorem sl_SB_putBytes : Cond.selects "StrataBase" my_SB_putBytes my_SB_putBytes ∈ tblG := tg_sel (List.mem_of_getElem? (i := 41) rfl) rfl
theorem sl_Jo_addPlainFacts : Cond.selects "StrataBase$Join" my_Jo_addPlainFacts my_Jo_addPlainFacts ∈ tblG := tg_sel (List.mem_of_getElem? (i := 42) rfl) rfl
theorem sl_Fa_slotOf : Cond.selects "StrataBase$Facts" my_Fa_slotOf my_Fa_slotOf ∈ tblG := tg_sel (List.mem_of_getElem? (i := 43) rfl) rfl
theorem sl_Jo_startsWork : Cond.selects "StrataBase$Join" my_Jo_startsWork my_Jo_startsWork ∈ tblG := tg_sel (List.mem_of_getElem? (i := 44) rfl) rfl
theorem sl_Jo_work : Cond.selects "StrataBase$Join" my_Jo_work my_Jo_work ∈ tblG := tg_sel (List.mem_of_getElem? (i := 45) rfl) rfl
theorem sl_Jo_lacksFacts : Cond.selects "StrataBase$Join" my_Jo_lacksFacts my_Jo_lacksFacts ∈ tblG := tg_sel (List.mem_of_getElem? (i := 46) rfl) rfl
theorem sl_Jo_arrange : Cond.selects "StrataBase$Join" my_Jo_arrange my_Jo_arrange ∈ tblG := tg_sel (List.mem_of_getElem? (i := 47) rfl) rfl
theorem sl_Jo_nextLiteral : Cond.selects "StrataBase$Join" my_Jo_nextLiteral my_Jo_nextLiteral ∈ tblG := tg_sel (List.mem_of_getElem? (i := 48) rfl) rfl
theorem sl_Jo_costOf : Cond.selects "StrataBase$Join" my_Jo_costOf my_Jo_costOf ∈ tblG := tg_sel (List.mem_of_getElem? (i := 49) rfl) rfl
theorem sl_Jo_prepare : Cond.selects "StrataBase$Join" my_Jo_prepare my_Jo_prepare ∈ tblG := tg_sel (List.mem_of_getElem? (i := 50) rfl) rfl
theorem sl_St_givePositions : Cond.selects "StrataBase$Step" my_St_givePositions my_St_givePositions ∈ tblG := tg_sel (List.mem_of_getElem? (i := 51) rfl) rfl
theorem sl_St_firstColumnOf : Cond.selects "StrataBase$Step" my_St_firstColumnOf my_St_firstColumnOf ∈ tblG := tg_sel (List.mem_of_getElem? (i := 52) rfl) rfl
theorem sl_St_setOtherRole : Cond.selects "StrataBase$Step" my_St_setOtherRole my_St_setOtherRole ∈ tblG := tg_sel (List.mem_of_getElem? (i := 53) rfl) rfl
theorem sl_St_setIndex : Cond.selects "StrataBase$Step" my_St_setIndex my_St_setIndex ∈ tblG := tg_sel (List.mem_of_getElem? (i := 54) rfl) rfl
theorem sl_Ix_collect : Cond.selects "StrataBase$Indexes" my_Ix_collect my_Ix_collect ∈ tblG := tg_sel (List.mem_of_getElem? (i := 55) rfl) rfl
theorem sl_Ix_sort : Cond.selects "StrataBase$Indexes" my_Ix_sort my_Ix_sort ∈ tblG := tg_sel (List.mem_of_getElem? (i := 56) rfl) rfl
theorem sl_Ix_dropEquals : Cond.selects "StrataBase$Indexes" my_Ix_dropEquals my_Ix_dropEquals ∈ tblG := tg_sel (List.mem_of_getElem? (i := 57) rfl) rfl
theorem sl_Jo_solve : Cond.selects "StrataBase$Join" my_Jo_solve my_Jo_solve ∈ tblG := tg_sel (List.mem_of_getElem? (i := 58) rfl) rfl
theorem sl_Jo_holds : Cond.selects "StrataBase$Join" my_Jo_holds my_Jo_holds ∈ tblG := tg_sel (List.mem_of_getElem? (i := 59) rfl) rfl
theorem sl_Cl_orderCode : Cond.selects "StrataBase$Clauses" my_Cl_orderCode my_Cl_orderCode ∈ tblG := tg_sel (List.mem_of_getElem? (i := 60) rfl) rfl
theorem sl_Jo_scan : Cond.selects "StrataBase$Join" my_Jo_scan my_Jo_scan ∈ tblG := tg_sel (List.mem_of_getElem? (i := 61) rfl) rfl
theorem sl_Jo_emit : Cond.selects "StrataBase$Join" my_Jo_emit my_Jo_emit ∈ tblG := tg_sel (List.mem_of_getElem? (i := 62) rfl) rfl
theorem sl_Ro_keyOf : Cond.selects "StrataBase$Rows" my_Ro_keyOf my_Ro_keyOf ∈ tblG := tg_sel (List.mem_of_getElem? (i := 63) rfl) rfl
theorem sl_Ro_sink : Cond.selects "StrataBase$Rows" my_Ro_sink my_Ro_sink ∈ tblG := tg_sel (List.mem_of_getElem? (i := 64) rfl) rfl
theorem sl_Ro_isAbove : Cond.selects "StrataBase$Rows" my_Ro_isAbove my_Ro_isAbove ∈ tblG := tg_sel (List.mem_of_getElem? (i := 65) rfl) rfl
theorem sl_Mo_starts : Cond.selects "StrataBaseModel" my_Mo_starts my_Mo_starts ∈ tblG := tg_sel (List.mem_of_getElem? (i := 66) rfl) rfl
theorem sl_Mo_next : Cond.selects "StrataBaseModel" my_Mo_next my_Mo_next ∈ tblG := tg_sel (List.mem_of_getElem? (i := 67) rfl) rfl
theorem sl_Mo_at : Cond.selects "StrataBaseModel" my_Mo_at my_Mo_at ∈ tblG := tg_sel (List.mem_of_getElem? (i := 68) rfl) rfl
theorem sl_Mo_figure : Cond.selects "StrataBaseModel" my_Mo_figure my_Mo_figure ∈ tblG := tg_sel (List.mem_of_getElem? (i := 69) rfl) rfl
theorem sl_Mo_flaw : Cond.selects "StrataBaseModel" my_Mo_flaw my_Mo_flaw ∈ tblG := tg_sel (List.mem_of_getElem? (i := 70) rfl) rfl
theorem sl_Mo_readClauses : Cond.selects "StrataBaseModel" my_Mo_readClauses my_Mo_readClauses ∈ tblG := tg_sel (List.mem_of_getElem? (i := 71) rfl) rfl
theorem sl_Mo_cannot : Cond.selects "StrataBaseModel" my_Mo_cannot my_Mo_cannot ∈ tblG := tg_sel (List.mem_of_getElem? (i := 72) rfl) rfl
theorem sl_Mo_atom : Cond.selects "StrataBaseModel" my_Mo_atom my_Mo_atom ∈ tblG := tg_sel (List.mem_of_getElem? (i := 73) rfl) rfl
theorem sl_Mo_name : Cond.selects "StrataBaseModel" my_Mo_name my_Mo_name ∈ tblG := tg_sel (List.mem_of_getElem? (i := 74) rfl) rfl
theorem sl_Mo_predicate : Cond.selects "StrataBaseModel" my_Mo_predicate my_Mo_predicate ∈ tblG := tg_sel (List.mem_of_getElem? (i := 75) rfl) rfl
theorem sl_Mo_isSame : Cond.selects "StrataBaseModel" my_Mo_isSame my_Mo_isSame ∈ tblG := tg_sel (List.mem_of_getElem? (i := 76) rfl) rfl
theorem sl_Mo_literal : Cond.selects "StrataBaseModel" my_Mo_literal my_Mo_literal ∈ tblG := tg_sel (List.mem_of_getElem? (i := 77) rfl) rfl
theorem sl_Mo_terms : Cond.selects "StrataBaseModel" my_Mo_terms my_Mo_terms ∈ tblG := tg_sel (List.mem_of_getElem? (i := 78) rfl) rfl
theorem sl_Mo_isTerm : Cond.selects "StrataBaseModel" my_Mo_isTerm my_Mo_isTerm ∈ tblG := tg_sel (List.mem_of_getElem? (i := 79) rfl) rfl
theorem sl_Mo_term : Cond.selects "StrataBaseModel" my_Mo_term my_Mo_term ∈ tblG := tg_sel (List.mem_of_getElem? (i := 80) rfl) rfl
theorem sl_Mo_constant : Cond.selects "StrataBaseModel" my_Mo_constant my_Mo_constant ∈ tblG := tg_sel (List.mem_of_getElem? (i := 81) rfl) rfl
theorem sl_Mo_body : Cond.selects "StrataBaseModel" my_Mo_body my_Mo_body ∈ tblG := tg_sel (List.mem_of_getElem? (i := 82) rfl) rfl
theorem sl_Mo_bodyLiteral : Cond.selects "StrataBaseModel" my_Mo_bodyLiteral my_Mo_bodyLiteral ∈ tblG := tg_sel (List.mem_of_getElem? (i := 83) rfl) rfl
theorem sl_Mo_isSign : Cond.selects "StrataBaseModel" my_Mo_isSign my_Mo_isSign ∈ tblG := tg_sel (List.mem_of_getElem? (i := 84) rfl) rfl
theorem sl_Mo_arities : Cond.selects "StrataBaseModel" my_Mo_arities my_Mo_arities ∈ tblG := tg_sel (List.mem_of_getElem? (i := 85) rfl) rfl
theorem sl_Mo_wrong : Cond.selects "StrataBaseModel" my_Mo_wrong my_Mo_wrong ∈ tblG := tg_sel (List.mem_of_getElem? (i := 86) rfl) rfl
theorem sl_Mo_look : Cond.selects "StrataBaseModel" my_Mo_look my_Mo_look ∈ tblG := tg_sel (List.mem_of_getElem? (i := 87) rfl) rfl
theorem sl_Mo_isBound : Cond.selects "StrataBaseModel" my_Mo_isBound my_Mo_isBound ∈ tblG := tg_sel (List.mem_of_getElem? (i := 88) rfl) rfl
theorem sl_Mo_isStrata : Cond.selects "StrataBaseModel" my_Mo_isStrata my_Mo_isStrata ∈ tblG := tg_sel (List.mem_of_getElem? (i := 89) rfl) rfl
theorem sl_Mo_dependencies : Cond.selects "StrataBaseModel" my_Mo_dependencies my_Mo_dependencies ∈ tblG := tg_sel (List.mem_of_getElem? (i := 90) rfl) rfl
theorem sl_Mo_layStrata : Cond.selects "StrataBaseModel" my_Mo_layStrata my_Mo_layStrata ∈ tblG := tg_sel (List.mem_of_getElem? (i := 91) rfl) rfl
theorem sl_Mo_follow : Cond.selects "StrataBaseModel" my_Mo_follow my_Mo_follow ∈ tblG := tg_sel (List.mem_of_getElem? (i := 92) rfl) rfl
theorem sl_Mo_join : Cond.selects "StrataBaseModel" my_Mo_join my_Mo_join ∈ tblG := tg_sel (List.mem_of_getElem? (i := 93) rfl) rfl
theorem sl_Mo_free : Cond.selects "StrataBaseModel" my_Mo_free my_Mo_free ∈ tblG := tg_sel (List.mem_of_getElem? (i := 94) rfl) rfl
theorem sl_Mo_holds : Cond.selects "StrataBaseModel" my_Mo_holds my_Mo_holds ∈ tblG := tg_sel (List.mem_of_getElem? (i := 95) rfl) rfl
theorem sl_Mo_value : Cond.selects "StrataBaseModel" my_Mo_value my_Mo_value ∈ tblG := tg_sel (List.mem_of_getElem? (i := 96) rfl) rfl
theorem sl_Mo_order : Cond.selects "StrataBaseModel" my_Mo_order my_Mo_order ∈ tblG := tg_sel (List.mem_of_getElem? (i := 97) rfl) rfl
theorem sl_Mo_arity : Cond.selects "StrataBaseModel" my_Mo_arity my_Mo_arity ∈ tblG := tg_sel (List.mem_of_getElem? (i := 98) rfl) rfl
theorem sl_Mo_find : Cond.selects "StrataBaseModel" my_Mo_find my_Mo_find ∈ tblG := tg_sel (List.mem_of_getElem? (i := 99) rfl) rfl
theorem sl_Mo_row : Cond.selects "StrataBaseModel" my_Mo_row my_Mo_row ∈ tblG := tg_sel (List.mem_of_getElem? (i := 100) rfl) rfl
theorem sl_Mo_fact : Cond.selects "StrataBaseModel" my_Mo_fact my_Mo_fact ∈ tblG := tg_sel (List.mem_of_getElem? (i := 101) rfl) rfl
theorem sl_Mo_isFact : Cond.selects "StrataBaseModel" my_Mo_isFact my_Mo_isFact ∈ tblG := tg_sel (List.mem_of_getElem? (i := 102) rfl) rfl
theorem sl_Mo_beginQuestion : Cond.selects "StrataBaseModel" my_Mo_beginQuestion my_Mo_beginQuestion ∈ tblG := tg_sel (List.mem_of_getElem? (i := 103) rfl) rfl
theorem sl_Mo_readQuestion : Cond.selects "StrataBaseModel" my_Mo_readQuestion my_Mo_readQuestion ∈ tblG := tg_sel (List.mem_of_getElem? (i := 104) rfl) rfl
theorem sl_Mo_ownArities : Cond.selects "StrataBaseModel" my_Mo_ownArities my_Mo_ownArities ∈ tblG := tg_sel (List.mem_of_getElem? (i := 105) rfl) rfl
theorem sl_Mo_isName : Cond.selects "StrataBaseModel" my_Mo_isName my_Mo_isName ∈ tblG := tg_sel (List.mem_of_getElem? (i := 106) rfl) rfl
theorem sl_Mo_sort : Cond.selects "StrataBaseModel" my_Mo_sort my_Mo_sort ∈ tblG := tg_sel (List.mem_of_getElem? (i := 107) rfl) rfl
theorem sl_Mo_isBehind : Cond.selects "StrataBaseModel" my_Mo_isBehind my_Mo_isBehind ∈ tblG := tg_sel (List.mem_of_getElem? (i := 108) rfl) rfl
theorem sl_Mo_cell : Cond.selects "StrataBaseModel" my_Mo_cell my_Mo_cell ∈ tblG := tg_sel (List.mem_of_getElem? (i := 109) rfl) rfl
theorem sl_Mo_ground : Cond.selects "StrataBaseModel" my_Mo_ground my_Mo_ground ∈ tblG := tg_sel (List.mem_of_getElem? (i := 110) rfl) rfl
