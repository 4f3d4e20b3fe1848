/-! the words that the walks name, by their places -/
theorem tw_1 : (Jvm.Cond.initialized "SettingsInLayers") ∈ tblG := tm_0 (tm_t (tm_1 (List.mem_of_getElem? (i := 1) rfl))) rfl
theorem tw_2 : (Jvm.Cond.initialized "SettingsInLayers$Scene") ∈ tblG := tm_0 (tm_t (tm_1 (List.mem_of_getElem? (i := 2) rfl))) rfl
theorem tw_3 : (Jvm.Cond.initialized "SettingsInLayers$Resolver") ∈ tblG := tm_0 (tm_t (tm_1 (List.mem_of_getElem? (i := 3) rfl))) rfl
theorem tw_4 : (Jvm.Cond.initialized "SettingsInLayers$Outcome") ∈ tblG := tm_0 (tm_t (tm_1 (List.mem_of_getElem? (i := 4) rfl))) rfl
theorem tw_5 : (Jvm.Cond.initialized "SettingsInLayers$Told") ∈ tblG := tm_0 (tm_t (tm_1 (List.mem_of_getElem? (i := 5) rfl))) rfl
theorem tw_6 : (Jvm.Cond.initialized "SettingsInLayers$Statement") ∈ tblG := tm_0 (tm_t (tm_1 (List.mem_of_getElem? (i := 6) rfl))) rfl
theorem tw_7 : (Jvm.Cond.initialized "SettingsInLayers$Row") ∈ tblG := tm_0 (tm_t (tm_1 (List.mem_of_getElem? (i := 7) rfl))) rfl
theorem tw_8 : (Jvm.Cond.initialized "SettingsInLayers$Draws") ∈ tblG := tm_0 (tm_t (tm_1 (List.mem_of_getElem? (i := 8) rfl))) rfl
theorem tw_9 : (Jvm.Cond.initialized "SettingsInLayersModel") ∈ tblG := tm_0 (tm_t (tm_1 (List.mem_of_getElem? (i := 9) rfl))) rfl
theorem tw_10 : (Jvm.Cond.initialized "java/lang/System") ∈ tblG := tm_0 (tm_t (tm_1 (List.mem_of_getElem? (i := 10) rfl))) rfl
theorem tw_11 : (Jvm.Cond.initialized "java/lang/Math") ∈ tblG := tm_0 (tm_t (tm_1 (List.mem_of_getElem? (i := 11) rfl))) rfl
theorem tw_12 : (Jvm.Cond.initialized "java/lang/Integer") ∈ tblG := tm_0 (tm_t (tm_1 (List.mem_of_getElem? (i := 12) rfl))) rfl
theorem tw_13 : (Jvm.Cond.initialized "java/util/Arrays") ∈ tblG := tm_0 (tm_t (tm_1 (List.mem_of_getElem? (i := 13) rfl))) rfl
theorem tw_14 : (Jvm.Cond.classLink "SettingsInLayersLaw" (7 : Nat) "SettingsInLayers") ∈ tblG := tm_0 (tm_t (tm_1 (List.mem_of_getElem? (i := 14) rfl))) rfl
theorem tw_15 : (Jvm.Cond.instantiable "SettingsInLayers" (10 : Nat)) ∈ tblG := tm_0 (tm_t (tm_1 (List.mem_of_getElem? (i := 15) rfl))) rfl
theorem tw_16 : (Jvm.Cond.methodLink "SettingsInLayersLaw" (9 : Nat) ({ cls := "SettingsInLayers", name := "<init>", desc := "()V" } : Jvm.MethodName)) ∈ tblG := tm_0 (tm_t (tm_1 (List.mem_of_getElem? (i := 16) rfl))) rfl
theorem tw_17 : (Jvm.Cond.instanceMethod ({ cls := "SettingsInLayers", name := "<init>", desc := "()V" } : Jvm.MethodName)) ∈ tblG := tm_0 (tm_t (tm_1 (List.mem_of_getElem? (i := 17) rfl))) rfl
theorem tw_18 : (Jvm.Cond.code ({ cls := "SettingsInLayers", name := "<init>", desc := "()V" } : Jvm.MethodName) prog_1_method_1_code (2 : Nat) (Option.none : Option Jvm.ClassFile.FieldType)) ∈ tblG := tm_0 (tm_t (tm_1 (List.mem_of_getElem? (i := 18) rfl))) rfl
theorem tw_19 : (Jvm.Cond.methodLink "SettingsInLayers" (1 : Nat) ({ cls := "java/lang/Object", name := "<init>", desc := "()V" } : Jvm.MethodName)) ∈ tblG := tm_0 (tm_t (tm_1 (List.mem_of_getElem? (i := 19) rfl))) rfl
theorem tw_20 : (Jvm.Cond.instanceMethod ({ cls := "java/lang/Object", name := "<init>", desc := "()V" } : Jvm.MethodName)) ∈ tblG := tm_0 (tm_t (tm_1 (List.mem_of_getElem? (i := 20) rfl))) rfl
theorem tw_21 : (Jvm.Cond.code ({ cls := "java/lang/Object", name := "<init>", desc := "()V" } : Jvm.MethodName) object_method_1_code (1 : Nat) (Option.none : Option Jvm.ClassFile.FieldType)) ∈ tblG := tm_0 (tm_t (tm_1 (List.mem_of_getElem? (i := 21) rfl))) rfl
theorem tw_22 : (Jvm.Cond.classLink "SettingsInLayers" (7 : Nat) "SettingsInLayers$Scene") ∈ tblG := tm_0 (tm_t (tm_1 (List.mem_of_getElem? (i := 22) rfl))) rfl
theorem tw_23 : (Jvm.Cond.instantiable "SettingsInLayers$Scene" (10 : Nat)) ∈ tblG := tm_0 (tm_t (tm_1 (List.mem_of_getElem? (i := 23) rfl))) rfl
theorem tw_24 : (Jvm.Cond.methodLink "SettingsInLayers" (9 : Nat) ({ cls := "SettingsInLayers$Scene", name := "<init>", desc := "()V" } : Jvm.MethodName)) ∈ tblG := tm_0 (tm_t (tm_1 (List.mem_of_getElem? (i := 24) rfl))) rfl
theorem tw_25 : (Jvm.Cond.instanceMethod ({ cls := "SettingsInLayers$Scene", name := "<init>", desc := "()V" } : Jvm.MethodName)) ∈ tblG := tm_0 (tm_t (tm_1 (List.mem_of_getElem? (i := 25) rfl))) rfl
theorem tw_26 : (Jvm.Cond.code ({ cls := "SettingsInLayers$Scene", name := "<init>", desc := "()V" } : Jvm.MethodName) prog_6_method_1_code (2 : Nat) (Option.none : Option Jvm.ClassFile.FieldType)) ∈ tblG := tm_0 (tm_t (tm_1 (List.mem_of_getElem? (i := 26) rfl))) rfl
theorem tw_27 : (Jvm.Cond.methodLink "SettingsInLayers$Scene" (3 : Nat) ({ cls := "java/lang/Object", name := "<init>", desc := "()V" } : Jvm.MethodName)) ∈ tblG := tm_0 (tm_t (tm_1 (List.mem_of_getElem? (i := 27) rfl))) rfl
theorem tw_28 : (Jvm.Cond.methodLink "SettingsInLayers$Scene" (39 : Nat) ({ cls := "SettingsInLayers$Scene", name := "erase", desc := "(I)V" } : Jvm.MethodName)) ∈ tblG := tm_0 (tm_t (tm_1 (List.mem_of_getElem? (i := 28) rfl))) rfl
theorem tw_29 : (Jvm.Cond.instanceMethod ({ cls := "SettingsInLayers$Scene", name := "erase", desc := "(I)V" } : Jvm.MethodName)) ∈ tblG := tm_0 (tm_t (tm_1 (List.mem_of_getElem? (i := 29) rfl))) rfl
theorem tw_30 : (Jvm.Cond.selects "SettingsInLayers$Scene" ({ cls := "SettingsInLayers$Scene", name := "erase", desc := "(I)V" } : Jvm.MethodName) ({ cls := "SettingsInLayers$Scene", name := "erase", desc := "(I)V" } : Jvm.MethodName)) ∈ tblG := tm_0 (tm_t (tm_1 (List.mem_of_getElem? (i := 30) rfl))) rfl
theorem tw_31 : (Jvm.Cond.code ({ cls := "SettingsInLayers$Scene", name := "erase", desc := "(I)V" } : Jvm.MethodName) prog_6_method_10_code (2 : Nat) (Option.none : Option Jvm.ClassFile.FieldType)) ∈ tblG := tm_0 (tm_t (tm_1 (List.mem_of_getElem? (i := 31) rfl))) rfl
theorem tw_32 : (Jvm.Cond.methodLink "SettingsInLayers$Scene" (60 : Nat) ({ cls := "SettingsInLayers$Scene", name := "put", desc := "(IIII)V" } : Jvm.MethodName)) ∈ tblG := tm_0 (tm_t (tm_1 (List.mem_of_getElem? (i := 32) rfl))) rfl
theorem tw_33 : (Jvm.Cond.instanceMethod ({ cls := "SettingsInLayers$Scene", name := "put", desc := "(IIII)V" } : Jvm.MethodName)) ∈ tblG := tm_0 (tm_t (tm_1 (List.mem_of_getElem? (i := 33) rfl))) rfl
theorem tw_34 : (Jvm.Cond.selects "SettingsInLayers$Scene" ({ cls := "SettingsInLayers$Scene", name := "put", desc := "(IIII)V" } : Jvm.MethodName) ({ cls := "SettingsInLayers$Scene", name := "put", desc := "(IIII)V" } : Jvm.MethodName)) ∈ tblG := tm_0 (tm_t (tm_1 (List.mem_of_getElem? (i := 34) rfl))) rfl
theorem tw_35 : (Jvm.Cond.code ({ cls := "SettingsInLayers$Scene", name := "put", desc := "(IIII)V" } : Jvm.MethodName) prog_6_method_9_code (5 : Nat) (Option.none : Option Jvm.ClassFile.FieldType)) ∈ tblG := tm_0 (tm_t (tm_1 (List.mem_of_getElem? (i := 35) rfl))) rfl
theorem tw_36 : (Jvm.Cond.methodLink "SettingsInLayers$Scene" (43 : Nat) ({ cls := "SettingsInLayers$Scene", name := "arrange", desc := "()V" } : Jvm.MethodName)) ∈ tblG := tm_0 (tm_t (tm_1 (List.mem_of_getElem? (i := 36) rfl))) rfl
theorem tw_38 : (Jvm.Cond.instanceMethod ({ cls := "SettingsInLayers$Scene", name := "arrange", desc := "()V" } : Jvm.MethodName)) ∈ tblG := tm_0 (tm_t (tm_1 (List.mem_of_getElem? (i := 38) rfl))) rfl
theorem tw_39 : (Jvm.Cond.code ({ cls := "SettingsInLayers$Scene", name := "arrange", desc := "()V" } : Jvm.MethodName) prog_6_method_7_code (3 : Nat) (Option.none : Option Jvm.ClassFile.FieldType)) ∈ tblG := tm_0 (tm_t (tm_1 (List.mem_of_getElem? (i := 39) rfl))) rfl
theorem tw_40 : (Jvm.Cond.methodLink "SettingsInLayers$Scene" (56 : Nat) ({ cls := "SettingsInLayers$Scene", name := "rank", desc := "(I)I" } : Jvm.MethodName)) ∈ tblG := tm_0 (tm_t (tm_1 (List.mem_of_getElem? (i := 40) rfl))) rfl
theorem tw_41 : (Jvm.Cond.instanceMethod ({ cls := "SettingsInLayers$Scene", name := "rank", desc := "(I)I" } : Jvm.MethodName)) ∈ tblG := tm_0 (tm_t (tm_1 (List.mem_of_getElem? (i := 41) rfl))) rfl
theorem tw_42 : (Jvm.Cond.selects "SettingsInLayers$Scene" ({ cls := "SettingsInLayers$Scene", name := "rank", desc := "(I)I" } : Jvm.MethodName) ({ cls := "SettingsInLayers$Scene", name := "rank", desc := "(I)I" } : Jvm.MethodName)) ∈ tblG := tm_0 (tm_t (tm_1 (List.mem_of_getElem? (i := 42) rfl))) rfl
theorem tw_43 : (Jvm.Cond.code ({ cls := "SettingsInLayers$Scene", name := "rank", desc := "(I)I" } : Jvm.MethodName) prog_6_method_6_code (2 : Nat) (Option.some Jvm.ClassFile.FieldType.int)) ∈ tblG := tm_0 (tm_t (tm_1 (List.mem_of_getElem? (i := 43) rfl))) rfl
theorem tw_44 : (Jvm.Cond.fieldLink "SettingsInLayers$Scene" (46 : Nat) "SettingsInLayers$Scene" "onBits" "I") ∈ tblG := tm_0 (tm_t (tm_1 (List.mem_of_getElem? (i := 44) rfl))) rfl
theorem tw_45 : (Jvm.Cond.fieldLink "SettingsInLayers" (224 : Nat) "SettingsInLayers$Scene" "onBits" "I") ∈ tblG := tm_0 (tm_t (tm_1 (List.mem_of_getElem? (i := 45) rfl))) rfl
theorem tw_46 : (Jvm.Cond.fieldLink "SettingsInLayers$Scene" (9 : Nat) "SettingsInLayers$Scene" "kinds" "[I") ∈ tblG := tm_0 (tm_t (tm_1 (List.mem_of_getElem? (i := 46) rfl))) rfl
theorem tw_47 : (Jvm.Cond.fieldLink "SettingsInLayers" (98 : Nat) "SettingsInLayers$Scene" "kinds" "[I") ∈ tblG := tm_0 (tm_t (tm_1 (List.mem_of_getElem? (i := 47) rfl))) rfl
theorem tw_48 : (Jvm.Cond.fieldLink "SettingsInLayers$Resolver" (95 : Nat) "SettingsInLayers$Scene" "kinds" "[I") ∈ tblG := tm_0 (tm_t (tm_1 (List.mem_of_getElem? (i := 48) rfl))) rfl
theorem tw_49 : (Jvm.Cond.fieldLink "SettingsInLayers$Scene" (15 : Nat) "SettingsInLayers$Scene" "figures" "[I") ∈ tblG := tm_0 (tm_t (tm_1 (List.mem_of_getElem? (i := 49) rfl))) rfl
theorem tw_50 : (Jvm.Cond.fieldLink "SettingsInLayers" (101 : Nat) "SettingsInLayers$Scene" "figures" "[I") ∈ tblG := tm_0 (tm_t (tm_1 (List.mem_of_getElem? (i := 50) rfl))) rfl
theorem tw_51 : (Jvm.Cond.fieldLink "SettingsInLayers$Resolver" (98 : Nat) "SettingsInLayers$Scene" "figures" "[I") ∈ tblG := tm_0 (tm_t (tm_1 (List.mem_of_getElem? (i := 51) rfl))) rfl
theorem tw_52 : (Jvm.Cond.fieldLink "SettingsInLayers$Scene" (18 : Nat) "SettingsInLayers$Scene" "manners" "[I") ∈ tblG := tm_0 (tm_t (tm_1 (List.mem_of_getElem? (i := 52) rfl))) rfl
theorem tw_53 : (Jvm.Cond.fieldLink "SettingsInLayers" (111 : Nat) "SettingsInLayers$Scene" "manners" "[I") ∈ tblG := tm_0 (tm_t (tm_1 (List.mem_of_getElem? (i := 53) rfl))) rfl
theorem tw_54 : (Jvm.Cond.fieldLink "SettingsInLayers$Resolver" (101 : Nat) "SettingsInLayers$Scene" "manners" "[I") ∈ tblG := tm_0 (tm_t (tm_1 (List.mem_of_getElem? (i := 54) rfl))) rfl
theorem tw_55 : (Jvm.Cond.fieldLink "SettingsInLayers$Statement" (104 : Nat) "SettingsInLayers$Scene" "manners" "[I") ∈ tblG := tm_0 (tm_t (tm_1 (List.mem_of_getElem? (i := 55) rfl))) rfl
theorem tw_56 : (Jvm.Cond.fieldLink "SettingsInLayers$Scene" (21 : Nat) "SettingsInLayers$Scene" "order" "[I") ∈ tblG := tm_0 (tm_t (tm_1 (List.mem_of_getElem? (i := 56) rfl))) rfl
theorem tw_57 : (Jvm.Cond.fieldLink "SettingsInLayers$Resolver" (71 : Nat) "SettingsInLayers$Scene" "order" "[I") ∈ tblG := tm_0 (tm_t (tm_1 (List.mem_of_getElem? (i := 57) rfl))) rfl
theorem tw_58 : (Jvm.Cond.fieldLink "SettingsInLayers$Scene" (24 : Nat) "SettingsInLayers$Scene" "forms" "[I") ∈ tblG := tm_0 (tm_t (tm_1 (List.mem_of_getElem? (i := 58) rfl))) rfl
theorem tw_59 : (Jvm.Cond.fieldLink "SettingsInLayers$Resolver" (76 : Nat) "SettingsInLayers$Scene" "forms" "[I") ∈ tblG := tm_0 (tm_t (tm_1 (List.mem_of_getElem? (i := 59) rfl))) rfl
theorem tw_60 : (Jvm.Cond.fieldLink "SettingsInLayers$Statement" (95 : Nat) "SettingsInLayers$Scene" "forms" "[I") ∈ tblG := tm_0 (tm_t (tm_1 (List.mem_of_getElem? (i := 60) rfl))) rfl
theorem tw_61 : (Jvm.Cond.fieldLink "SettingsInLayers" (121 : Nat) "SettingsInLayers$Scene" "forms" "[I") ∈ tblG := tm_0 (tm_t (tm_1 (List.mem_of_getElem? (i := 61) rfl))) rfl
theorem tw_62 : (Jvm.Cond.fieldLink "SettingsInLayers$Scene" (27 : Nat) "SettingsInLayers$Scene" "numbers" "[I") ∈ tblG := tm_0 (tm_t (tm_1 (List.mem_of_getElem? (i := 62) rfl))) rfl
theorem tw_63 : (Jvm.Cond.fieldLink "SettingsInLayers" (128 : Nat) "SettingsInLayers$Scene" "numbers" "[I") ∈ tblG := tm_0 (tm_t (tm_1 (List.mem_of_getElem? (i := 63) rfl))) rfl
theorem tw_64 : (Jvm.Cond.fieldLink "SettingsInLayers$Resolver" (131 : Nat) "SettingsInLayers$Scene" "numbers" "[I") ∈ tblG := tm_0 (tm_t (tm_1 (List.mem_of_getElem? (i := 64) rfl))) rfl
theorem tw_65 : (Jvm.Cond.fieldLink "SettingsInLayers$Scene" (30 : Nat) "SettingsInLayers$Scene" "others" "[I") ∈ tblG := tm_0 (tm_t (tm_1 (List.mem_of_getElem? (i := 65) rfl))) rfl
theorem tw_66 : (Jvm.Cond.fieldLink "SettingsInLayers$Resolver" (128 : Nat) "SettingsInLayers$Scene" "others" "[I") ∈ tblG := tm_0 (tm_t (tm_1 (List.mem_of_getElem? (i := 66) rfl))) rfl
theorem tw_67 : (Jvm.Cond.fieldLink "SettingsInLayers" (159 : Nat) "SettingsInLayers$Scene" "others" "[I") ∈ tblG := tm_0 (tm_t (tm_1 (List.mem_of_getElem? (i := 67) rfl))) rfl
theorem tw_68 : (Jvm.Cond.fieldLink "SettingsInLayers$Scene" (33 : Nat) "SettingsInLayers$Scene" "itemKeys" "[I") ∈ tblG := tm_0 (tm_t (tm_1 (List.mem_of_getElem? (i := 68) rfl))) rfl
theorem tw_69 : (Jvm.Cond.fieldLink "SettingsInLayers$Resolver" (143 : Nat) "SettingsInLayers$Scene" "itemKeys" "[I") ∈ tblG := tm_0 (tm_t (tm_1 (List.mem_of_getElem? (i := 69) rfl))) rfl
theorem tw_70 : (Jvm.Cond.fieldLink "SettingsInLayers$Scene" (36 : Nat) "SettingsInLayers$Scene" "itemNumbers" "[I") ∈ tblG := tm_0 (tm_t (tm_1 (List.mem_of_getElem? (i := 70) rfl))) rfl
theorem tw_71 : (Jvm.Cond.fieldLink "SettingsInLayers$Resolver" (153 : Nat) "SettingsInLayers$Scene" "itemNumbers" "[I") ∈ tblG := tm_0 (tm_t (tm_1 (List.mem_of_getElem? (i := 71) rfl))) rfl
theorem tw_93 : (Jvm.Cond.arrayClass Jvm.ClassFile.FieldType.int) ∈ tblG := tm_0 (tm_t (tm_1 (List.mem_of_getElem? (i := 93) rfl))) rfl
theorem tw_94 : (Jvm.Cond.classLink "SettingsInLayers" (22 : Nat) "SettingsInLayers$Resolver") ∈ tblG := tm_0 (tm_t (tm_1 (List.mem_of_getElem? (i := 94) rfl))) rfl
theorem tw_95 : (Jvm.Cond.instantiable "SettingsInLayers$Resolver" (6 : Nat)) ∈ tblG := tm_0 (tm_t (tm_1 (List.mem_of_getElem? (i := 95) rfl))) rfl
theorem tw_96 : (Jvm.Cond.methodLink "SettingsInLayers" (24 : Nat) ({ cls := "SettingsInLayers$Resolver", name := "<init>", desc := "()V" } : Jvm.MethodName)) ∈ tblG := tm_0 (tm_t (tm_1 (List.mem_of_getElem? (i := 96) rfl))) rfl
theorem tw_97 : (Jvm.Cond.instanceMethod ({ cls := "SettingsInLayers$Resolver", name := "<init>", desc := "()V" } : Jvm.MethodName)) ∈ tblG := tm_0 (tm_t (tm_1 (List.mem_of_getElem? (i := 97) rfl))) rfl
theorem tw_98 : (Jvm.Cond.code ({ cls := "SettingsInLayers$Resolver", name := "<init>", desc := "()V" } : Jvm.MethodName) prog_4_method_1_code (2 : Nat) (Option.none : Option Jvm.ClassFile.FieldType)) ∈ tblG := tm_0 (tm_t (tm_1 (List.mem_of_getElem? (i := 98) rfl))) rfl
theorem tw_99 : (Jvm.Cond.methodLink "SettingsInLayers$Resolver" (3 : Nat) ({ cls := "java/lang/Object", name := "<init>", desc := "()V" } : Jvm.MethodName)) ∈ tblG := tm_0 (tm_t (tm_1 (List.mem_of_getElem? (i := 99) rfl))) rfl
theorem tw_100 : (Jvm.Cond.classLink "SettingsInLayers$Resolver" (15 : Nat) "SettingsInLayers$Outcome") ∈ tblG := tm_0 (tm_t (tm_1 (List.mem_of_getElem? (i := 100) rfl))) rfl
theorem tw_102 : (Jvm.Cond.instantiable "SettingsInLayers$Outcome" (14 : Nat)) ∈ tblG := tm_0 (tm_t (tm_1 (List.mem_of_getElem? (i := 102) rfl))) rfl
theorem tw_104 : (Jvm.Cond.instanceMethod ({ cls := "SettingsInLayers$Outcome", name := "<init>", desc := "()V" } : Jvm.MethodName)) ∈ tblG := tm_0 (tm_t (tm_1 (List.mem_of_getElem? (i := 104) rfl))) rfl
theorem tw_105 : (Jvm.Cond.code ({ cls := "SettingsInLayers$Outcome", name := "<init>", desc := "()V" } : Jvm.MethodName) prog_3_method_1_code (1 : Nat) (Option.none : Option Jvm.ClassFile.FieldType)) ∈ tblG := tm_0 (tm_t (tm_1 (List.mem_of_getElem? (i := 105) rfl))) rfl
theorem tw_106 : (Jvm.Cond.methodLink "SettingsInLayers$Outcome" (3 : Nat) ({ cls := "java/lang/Object", name := "<init>", desc := "()V" } : Jvm.MethodName)) ∈ tblG := tm_0 (tm_t (tm_1 (List.mem_of_getElem? (i := 106) rfl))) rfl
theorem tw_107 : (Jvm.Cond.fieldLink "SettingsInLayers$Outcome" (30 : Nat) "SettingsInLayers$Outcome" "form" "I") ∈ tblG := tm_0 (tm_t (tm_1 (List.mem_of_getElem? (i := 107) rfl))) rfl
theorem tw_108 : (Jvm.Cond.fieldLink "SettingsInLayers$Resolver" (68 : Nat) "SettingsInLayers$Outcome" "form" "I") ∈ tblG := tm_0 (tm_t (tm_1 (List.mem_of_getElem? (i := 108) rfl))) rfl
theorem tw_109 : (Jvm.Cond.fieldLink "SettingsInLayers" (166 : Nat) "SettingsInLayers$Outcome" "form" "I") ∈ tblG := tm_0 (tm_t (tm_1 (List.mem_of_getElem? (i := 109) rfl))) rfl
theorem tw_110 : (Jvm.Cond.fieldLink "SettingsInLayers$Outcome" (34 : Nat) "SettingsInLayers$Outcome" "number" "I") ∈ tblG := tm_0 (tm_t (tm_1 (List.mem_of_getElem? (i := 110) rfl))) rfl
theorem tw_111 : (Jvm.Cond.fieldLink "SettingsInLayers$Resolver" (140 : Nat) "SettingsInLayers$Outcome" "number" "I") ∈ tblG := tm_0 (tm_t (tm_1 (List.mem_of_getElem? (i := 111) rfl))) rfl
theorem tw_112 : (Jvm.Cond.fieldLink "SettingsInLayers" (172 : Nat) "SettingsInLayers$Outcome" "number" "I") ∈ tblG := tm_0 (tm_t (tm_1 (List.mem_of_getElem? (i := 112) rfl))) rfl
theorem tw_113 : (Jvm.Cond.fieldLink "SettingsInLayers$Outcome" (9 : Nat) "SettingsInLayers$Outcome" "itemKeys" "[I") ∈ tblG := tm_0 (tm_t (tm_1 (List.mem_of_getElem? (i := 113) rfl))) rfl
theorem tw_114 : (Jvm.Cond.fieldLink "SettingsInLayers$Resolver" (146 : Nat) "SettingsInLayers$Outcome" "itemKeys" "[I") ∈ tblG := tm_0 (tm_t (tm_1 (List.mem_of_getElem? (i := 114) rfl))) rfl
theorem tw_115 : (Jvm.Cond.fieldLink "SettingsInLayers" (181 : Nat) "SettingsInLayers$Outcome" "itemKeys" "[I") ∈ tblG := tm_0 (tm_t (tm_1 (List.mem_of_getElem? (i := 115) rfl))) rfl
theorem tw_116 : (Jvm.Cond.fieldLink "SettingsInLayers$Outcome" (15 : Nat) "SettingsInLayers$Outcome" "itemNumbers" "[I") ∈ tblG := tm_0 (tm_t (tm_1 (List.mem_of_getElem? (i := 116) rfl))) rfl
theorem tw_117 : (Jvm.Cond.fieldLink "SettingsInLayers$Resolver" (156 : Nat) "SettingsInLayers$Outcome" "itemNumbers" "[I") ∈ tblG := tm_0 (tm_t (tm_1 (List.mem_of_getElem? (i := 117) rfl))) rfl
theorem tw_118 : (Jvm.Cond.fieldLink "SettingsInLayers" (184 : Nat) "SettingsInLayers$Outcome" "itemNumbers" "[I") ∈ tblG := tm_0 (tm_t (tm_1 (List.mem_of_getElem? (i := 118) rfl))) rfl
theorem tw_119 : (Jvm.Cond.fieldLink "SettingsInLayers$Outcome" (18 : Nat) "SettingsInLayers$Outcome" "itemSources" "[I") ∈ tblG := tm_0 (tm_t (tm_1 (List.mem_of_getElem? (i := 119) rfl))) rfl
theorem tw_120 : (Jvm.Cond.fieldLink "SettingsInLayers" (187 : Nat) "SettingsInLayers$Outcome" "itemSources" "[I") ∈ tblG := tm_0 (tm_t (tm_1 (List.mem_of_getElem? (i := 120) rfl))) rfl
theorem tw_121 : (Jvm.Cond.fieldLink "SettingsInLayers$Outcome" (37 : Nat) "SettingsInLayers$Outcome" "faults" "I") ∈ tblG := tm_0 (tm_t (tm_1 (List.mem_of_getElem? (i := 121) rfl))) rfl
theorem tw_122 : (Jvm.Cond.fieldLink "SettingsInLayers$Resolver" (65 : Nat) "SettingsInLayers$Outcome" "faults" "I") ∈ tblG := tm_0 (tm_t (tm_1 (List.mem_of_getElem? (i := 122) rfl))) rfl
theorem tw_123 : (Jvm.Cond.fieldLink "SettingsInLayers" (190 : Nat) "SettingsInLayers$Outcome" "faults" "I") ∈ tblG := tm_0 (tm_t (tm_1 (List.mem_of_getElem? (i := 123) rfl))) rfl
theorem tw_124 : (Jvm.Cond.fieldLink "SettingsInLayers$Outcome" (21 : Nat) "SettingsInLayers$Outcome" "faultCodes" "[I") ∈ tblG := tm_0 (tm_t (tm_1 (List.mem_of_getElem? (i := 124) rfl))) rfl
theorem tw_125 : (Jvm.Cond.fieldLink "SettingsInLayers$Resolver" (59 : Nat) "SettingsInLayers$Outcome" "faultCodes" "[I") ∈ tblG := tm_0 (tm_t (tm_1 (List.mem_of_getElem? (i := 125) rfl))) rfl
theorem tw_126 : (Jvm.Cond.fieldLink "SettingsInLayers" (169 : Nat) "SettingsInLayers$Outcome" "faultCodes" "[I") ∈ tblG := tm_0 (tm_t (tm_1 (List.mem_of_getElem? (i := 126) rfl))) rfl
theorem tw_127 : (Jvm.Cond.fieldLink "SettingsInLayers$Outcome" (24 : Nat) "SettingsInLayers$Outcome" "faultKeys" "[I") ∈ tblG := tm_0 (tm_t (tm_1 (List.mem_of_getElem? (i := 127) rfl))) rfl
theorem tw_128 : (Jvm.Cond.fieldLink "SettingsInLayers$Resolver" (62 : Nat) "SettingsInLayers$Outcome" "faultKeys" "[I") ∈ tblG := tm_0 (tm_t (tm_1 (List.mem_of_getElem? (i := 128) rfl))) rfl
theorem tw_129 : (Jvm.Cond.fieldLink "SettingsInLayers" (193 : Nat) "SettingsInLayers$Outcome" "faultKeys" "[I") ∈ tblG := tm_0 (tm_t (tm_1 (List.mem_of_getElem? (i := 129) rfl))) rfl
theorem tw_130 : (Jvm.Cond.fieldLink "SettingsInLayers$Outcome" (40 : Nat) "SettingsInLayers$Outcome" "offers" "I") ∈ tblG := tm_0 (tm_t (tm_1 (List.mem_of_getElem? (i := 130) rfl))) rfl
theorem tw_131 : (Jvm.Cond.fieldLink "SettingsInLayers$Resolver" (53 : Nat) "SettingsInLayers$Outcome" "offers" "I") ∈ tblG := tm_0 (tm_t (tm_1 (List.mem_of_getElem? (i := 131) rfl))) rfl
theorem tw_132 : (Jvm.Cond.fieldLink "SettingsInLayers" (175 : Nat) "SettingsInLayers$Outcome" "offers" "I") ∈ tblG := tm_0 (tm_t (tm_1 (List.mem_of_getElem? (i := 132) rfl))) rfl
theorem tw_133 : (Jvm.Cond.fieldLink "SettingsInLayers$Outcome" (43 : Nat) "SettingsInLayers$Outcome" "offerBits" "I") ∈ tblG := tm_0 (tm_t (tm_1 (List.mem_of_getElem? (i := 133) rfl))) rfl
theorem tw_134 : (Jvm.Cond.fieldLink "SettingsInLayers" (178 : Nat) "SettingsInLayers$Outcome" "offerBits" "I") ∈ tblG := tm_0 (tm_t (tm_1 (List.mem_of_getElem? (i := 134) rfl))) rfl
theorem tw_135 : (Jvm.Cond.fieldLink "SettingsInLayers$Outcome" (27 : Nat) "SettingsInLayers$Outcome" "offerLayers" "[I") ∈ tblG := tm_0 (tm_t (tm_1 (List.mem_of_getElem? (i := 135) rfl))) rfl
theorem tw_136 : (Jvm.Cond.fieldLink "SettingsInLayers$Outcome" (46 : Nat) "SettingsInLayers$Outcome" "sourceBits" "I") ∈ tblG := tm_0 (tm_t (tm_1 (List.mem_of_getElem? (i := 136) rfl))) rfl
theorem tw_137 : (Jvm.Cond.fieldLink "SettingsInLayers" (196 : Nat) "SettingsInLayers$Outcome" "sourceBits" "I") ∈ tblG := tm_0 (tm_t (tm_1 (List.mem_of_getElem? (i := 137) rfl))) rfl
theorem tw_138 : (Jvm.Cond.fieldLink "SettingsInLayers$Outcome" (49 : Nat) "SettingsInLayers$Outcome" "deepBits" "I") ∈ tblG := tm_0 (tm_t (tm_1 (List.mem_of_getElem? (i := 138) rfl))) rfl
theorem tw_139 : (Jvm.Cond.fieldLink "SettingsInLayers" (199 : Nat) "SettingsInLayers$Outcome" "deepBits" "I") ∈ tblG := tm_0 (tm_t (tm_1 (List.mem_of_getElem? (i := 139) rfl))) rfl
theorem tw_140 : (Jvm.Cond.fieldLink "SettingsInLayers$Outcome" (52 : Nat) "SettingsInLayers$Outcome" "usesBits" "I") ∈ tblG := tm_0 (tm_t (tm_1 (List.mem_of_getElem? (i := 140) rfl))) rfl
theorem tw_141 : (Jvm.Cond.fieldLink "SettingsInLayers$Resolver" (40 : Nat) "SettingsInLayers$Outcome" "usesBits" "I") ∈ tblG := tm_0 (tm_t (tm_1 (List.mem_of_getElem? (i := 141) rfl))) rfl
theorem tw_142 : (Jvm.Cond.fieldLink "SettingsInLayers" (202 : Nat) "SettingsInLayers$Outcome" "usesBits" "I") ∈ tblG := tm_0 (tm_t (tm_1 (List.mem_of_getElem? (i := 142) rfl))) rfl
theorem tw_172 : (Jvm.Cond.fieldLink "SettingsInLayers$Resolver" (22 : Nat) "SettingsInLayers$Resolver" "scene" "LSettingsInLayers$Scene;") ∈ tblG := tm_0 (tm_t (tm_1 (List.mem_of_getElem? (i := 172) rfl))) rfl
theorem tw_173 : (Jvm.Cond.fieldLink "SettingsInLayers$Resolver" (26 : Nat) "SettingsInLayers$Resolver" "resolved" "I") ∈ tblG := tm_0 (tm_t (tm_1 (List.mem_of_getElem? (i := 173) rfl))) rfl
theorem tw_174 : (Jvm.Cond.fieldLink "SettingsInLayers$Resolver" (30 : Nat) "SettingsInLayers$Resolver" "openBits" "I") ∈ tblG := tm_0 (tm_t (tm_1 (List.mem_of_getElem? (i := 174) rfl))) rfl
theorem tw_175 : (Jvm.Cond.fieldLink "SettingsInLayers$Resolver" (33 : Nat) "SettingsInLayers$Resolver" "seenBits" "I") ∈ tblG := tm_0 (tm_t (tm_1 (List.mem_of_getElem? (i := 175) rfl))) rfl
theorem tw_176 : (Jvm.Cond.fieldLink "SettingsInLayers$Resolver" (9 : Nat) "SettingsInLayers$Resolver" "path" "[I") ∈ tblG := tm_0 (tm_t (tm_1 (List.mem_of_getElem? (i := 176) rfl))) rfl
theorem tw_177 : (Jvm.Cond.fieldLink "SettingsInLayers$Resolver" (17 : Nat) "SettingsInLayers$Resolver" "levels" "[LSettingsInLayers$Outcome;") ∈ tblG := tm_0 (tm_t (tm_1 (List.mem_of_getElem? (i := 177) rfl))) rfl
theorem tw_191 : (Jvm.Cond.classLink "SettingsInLayers" (29 : Nat) "SettingsInLayers$Told") ∈ tblG := tm_0 (tm_t (tm_1 (List.mem_of_getElem? (i := 191) rfl))) rfl
theorem tw_192 : (Jvm.Cond.instantiable "SettingsInLayers$Told" (4 : Nat)) ∈ tblG := tm_0 (tm_t (tm_1 (List.mem_of_getElem? (i := 192) rfl))) rfl
theorem tw_194 : (Jvm.Cond.instanceMethod ({ cls := "SettingsInLayers$Told", name := "<init>", desc := "()V" } : Jvm.MethodName)) ∈ tblG := tm_0 (tm_t (tm_1 (List.mem_of_getElem? (i := 194) rfl))) rfl
theorem tw_195 : (Jvm.Cond.code ({ cls := "SettingsInLayers$Told", name := "<init>", desc := "()V" } : Jvm.MethodName) prog_8_method_1_code (1 : Nat) (Option.none : Option Jvm.ClassFile.FieldType)) ∈ tblG := tm_0 (tm_t (tm_1 (List.mem_of_getElem? (i := 195) rfl))) rfl
theorem tw_196 : (Jvm.Cond.methodLink "SettingsInLayers$Told" (3 : Nat) ({ cls := "java/lang/Object", name := "<init>", desc := "()V" } : Jvm.MethodName)) ∈ tblG := tm_0 (tm_t (tm_1 (List.mem_of_getElem? (i := 196) rfl))) rfl
theorem tw_197 : (Jvm.Cond.classLink "SettingsInLayers$Told" (15 : Nat) "SettingsInLayers$Statement") ∈ tblG := tm_0 (tm_t (tm_1 (List.mem_of_getElem? (i := 197) rfl))) rfl
theorem tw_198 : (Jvm.Cond.instantiable "SettingsInLayers$Statement" (14 : Nat)) ∈ tblG := tm_0 (tm_t (tm_1 (List.mem_of_getElem? (i := 198) rfl))) rfl
theorem tw_200 : (Jvm.Cond.instanceMethod ({ cls := "SettingsInLayers$Statement", name := "<init>", desc := "()V" } : Jvm.MethodName)) ∈ tblG := tm_0 (tm_t (tm_1 (List.mem_of_getElem? (i := 200) rfl))) rfl
theorem tw_201 : (Jvm.Cond.code ({ cls := "SettingsInLayers$Statement", name := "<init>", desc := "()V" } : Jvm.MethodName) prog_7_method_1_code (1 : Nat) (Option.none : Option Jvm.ClassFile.FieldType)) ∈ tblG := tm_0 (tm_t (tm_1 (List.mem_of_getElem? (i := 201) rfl))) rfl
theorem tw_202 : (Jvm.Cond.methodLink "SettingsInLayers$Statement" (3 : Nat) ({ cls := "java/lang/Object", name := "<init>", desc := "()V" } : Jvm.MethodName)) ∈ tblG := tm_0 (tm_t (tm_1 (List.mem_of_getElem? (i := 202) rfl))) rfl
theorem tw_203 : (Jvm.Cond.fieldLink "SettingsInLayers$Statement" (35 : Nat) "SettingsInLayers$Statement" "verb" "I") ∈ tblG := tm_0 (tm_t (tm_1 (List.mem_of_getElem? (i := 203) rfl))) rfl
theorem tw_204 : (Jvm.Cond.fieldLink "SettingsInLayers$Told" (37 : Nat) "SettingsInLayers$Statement" "verb" "I") ∈ tblG := tm_0 (tm_t (tm_1 (List.mem_of_getElem? (i := 204) rfl))) rfl
theorem tw_205 : (Jvm.Cond.fieldLink "SettingsInLayers$Statement" (54 : Nat) "SettingsInLayers$Statement" "layer" "I") ∈ tblG := tm_0 (tm_t (tm_1 (List.mem_of_getElem? (i := 205) rfl))) rfl
theorem tw_206 : (Jvm.Cond.fieldLink "SettingsInLayers$Told" (87 : Nat) "SettingsInLayers$Statement" "layer" "I") ∈ tblG := tm_0 (tm_t (tm_1 (List.mem_of_getElem? (i := 206) rfl))) rfl
theorem tw_207 : (Jvm.Cond.fieldLink "SettingsInLayers$Statement" (77 : Nat) "SettingsInLayers$Statement" "key" "I") ∈ tblG := tm_0 (tm_t (tm_1 (List.mem_of_getElem? (i := 207) rfl))) rfl
theorem tw_208 : (Jvm.Cond.fieldLink "SettingsInLayers$Told" (102 : Nat) "SettingsInLayers$Statement" "key" "I") ∈ tblG := tm_0 (tm_t (tm_1 (List.mem_of_getElem? (i := 208) rfl))) rfl
theorem tw_209 : (Jvm.Cond.fieldLink "SettingsInLayers$Statement" (61 : Nat) "SettingsInLayers$Statement" "kind" "I") ∈ tblG := tm_0 (tm_t (tm_1 (List.mem_of_getElem? (i := 209) rfl))) rfl
theorem tw_210 : (Jvm.Cond.fieldLink "SettingsInLayers$Told" (90 : Nat) "SettingsInLayers$Statement" "kind" "I") ∈ tblG := tm_0 (tm_t (tm_1 (List.mem_of_getElem? (i := 210) rfl))) rfl
theorem tw_211 : (Jvm.Cond.fieldLink "SettingsInLayers$Statement" (64 : Nat) "SettingsInLayers$Statement" "figure" "I") ∈ tblG := tm_0 (tm_t (tm_1 (List.mem_of_getElem? (i := 211) rfl))) rfl
theorem tw_212 : (Jvm.Cond.fieldLink "SettingsInLayers$Told" (93 : Nat) "SettingsInLayers$Statement" "figure" "I") ∈ tblG := tm_0 (tm_t (tm_1 (List.mem_of_getElem? (i := 212) rfl))) rfl
theorem tw_213 : (Jvm.Cond.fieldLink "SettingsInLayers$Statement" (101 : Nat) "SettingsInLayers$Statement" "manner" "I") ∈ tblG := tm_0 (tm_t (tm_1 (List.mem_of_getElem? (i := 213) rfl))) rfl
theorem tw_214 : (Jvm.Cond.fieldLink "SettingsInLayers$Told" (96 : Nat) "SettingsInLayers$Statement" "manner" "I") ∈ tblG := tm_0 (tm_t (tm_1 (List.mem_of_getElem? (i := 214) rfl))) rfl
theorem tw_215 : (Jvm.Cond.fieldLink "SettingsInLayers$Told" (65 : Nat) "SettingsInLayers$Statement" "form" "I") ∈ tblG := tm_0 (tm_t (tm_1 (List.mem_of_getElem? (i := 215) rfl))) rfl
theorem tw_216 : (Jvm.Cond.fieldLink "SettingsInLayers$Statement" (84 : Nat) "SettingsInLayers$Statement" "form" "I") ∈ tblG := tm_0 (tm_t (tm_1 (List.mem_of_getElem? (i := 216) rfl))) rfl
theorem tw_217 : (Jvm.Cond.fieldLink "SettingsInLayers$Statement" (18 : Nat) "SettingsInLayers$Statement" "number" "I") ∈ tblG := tm_0 (tm_t (tm_1 (List.mem_of_getElem? (i := 217) rfl))) rfl
theorem tw_218 : (Jvm.Cond.fieldLink "SettingsInLayers$Told" (108 : Nat) "SettingsInLayers$Statement" "number" "I") ∈ tblG := tm_0 (tm_t (tm_1 (List.mem_of_getElem? (i := 218) rfl))) rfl
theorem tw_219 : (Jvm.Cond.fieldLink "SettingsInLayers$Statement" (22 : Nat) "SettingsInLayers$Statement" "other" "I") ∈ tblG := tm_0 (tm_t (tm_1 (List.mem_of_getElem? (i := 219) rfl))) rfl
theorem tw_220 : (Jvm.Cond.fieldLink "SettingsInLayers$Told" (105 : Nat) "SettingsInLayers$Statement" "other" "I") ∈ tblG := tm_0 (tm_t (tm_1 (List.mem_of_getElem? (i := 220) rfl))) rfl
theorem tw_221 : (Jvm.Cond.fieldLink "SettingsInLayers$Statement" (25 : Nat) "SettingsInLayers$Statement" "items" "I") ∈ tblG := tm_0 (tm_t (tm_1 (List.mem_of_getElem? (i := 221) rfl))) rfl
theorem tw_222 : (Jvm.Cond.fieldLink "SettingsInLayers$Statement" (28 : Nat) "SettingsInLayers$Statement" "itemBits" "I") ∈ tblG := tm_0 (tm_t (tm_1 (List.mem_of_getElem? (i := 222) rfl))) rfl
theorem tw_223 : (Jvm.Cond.fieldLink "SettingsInLayers$Statement" (31 : Nat) "SettingsInLayers$Statement" "itemTwice" "Z") ∈ tblG := tm_0 (tm_t (tm_1 (List.mem_of_getElem? (i := 223) rfl))) rfl
theorem tw_224 : (Jvm.Cond.fieldLink "SettingsInLayers$Statement" (9 : Nat) "SettingsInLayers$Statement" "itemKeys" "[I") ∈ tblG := tm_0 (tm_t (tm_1 (List.mem_of_getElem? (i := 224) rfl))) rfl
theorem tw_225 : (Jvm.Cond.fieldLink "SettingsInLayers$Statement" (15 : Nat) "SettingsInLayers$Statement" "itemNumbers" "[I") ∈ tblG := tm_0 (tm_t (tm_1 (List.mem_of_getElem? (i := 225) rfl))) rfl
theorem tw_255 : (Jvm.Cond.fieldLink "SettingsInLayers$Told" (9 : Nat) "SettingsInLayers$Told" "letters" "[I") ∈ tblG := tm_0 (tm_t (tm_2 (List.mem_of_getElem? (i := 15) rfl))) rfl
theorem tw_256 : (Jvm.Cond.fieldLink "SettingsInLayers$Told" (22 : Nat) "SettingsInLayers$Told" "length" "I") ∈ tblG := tm_0 (tm_t (tm_2 (List.mem_of_getElem? (i := 16) rfl))) rfl
theorem tw_257 : (Jvm.Cond.fieldLink "SettingsInLayers" (65 : Nat) "SettingsInLayers$Told" "length" "I") ∈ tblG := tm_0 (tm_t (tm_2 (List.mem_of_getElem? (i := 17) rfl))) rfl
theorem tw_258 : (Jvm.Cond.fieldLink "SettingsInLayers$Told" (26 : Nat) "SettingsInLayers$Told" "at" "I") ∈ tblG := tm_0 (tm_t (tm_2 (List.mem_of_getElem? (i := 18) rfl))) rfl
theorem tw_259 : (Jvm.Cond.fieldLink "SettingsInLayers" (80 : Nat) "SettingsInLayers$Told" "at" "I") ∈ tblG := tm_0 (tm_t (tm_2 (List.mem_of_getElem? (i := 19) rfl))) rfl
theorem tw_260 : (Jvm.Cond.fieldLink "SettingsInLayers$Told" (18 : Nat) "SettingsInLayers$Told" "statement" "LSettingsInLayers$Statement;") ∈ tblG := tm_0 (tm_t (tm_2 (List.mem_of_getElem? (i := 20) rfl))) rfl
theorem tw_261 : (Jvm.Cond.fieldLink "SettingsInLayers" (289 : Nat) "SettingsInLayers$Told" "statement" "LSettingsInLayers$Statement;") ∈ tblG := tm_0 (tm_t (tm_2 (List.mem_of_getElem? (i := 21) rfl))) rfl
theorem tw_271 : (Jvm.Cond.classLink "SettingsInLayers" (36 : Nat) "SettingsInLayers$Row") ∈ tblG := tm_0 (tm_t (tm_2 (List.mem_of_getElem? (i := 31) rfl))) rfl
theorem tw_272 : (Jvm.Cond.instantiable "SettingsInLayers$Row" (2 : Nat)) ∈ tblG := tm_0 (tm_t (tm_2 (List.mem_of_getElem? (i := 32) rfl))) rfl
theorem tw_274 : (Jvm.Cond.instanceMethod ({ cls := "SettingsInLayers$Row", name := "<init>", desc := "()V" } : Jvm.MethodName)) ∈ tblG := tm_0 (tm_t (tm_2 (List.mem_of_getElem? (i := 34) rfl))) rfl
theorem tw_275 : (Jvm.Cond.code ({ cls := "SettingsInLayers$Row", name := "<init>", desc := "()V" } : Jvm.MethodName) prog_5_method_1_code (1 : Nat) (Option.none : Option Jvm.ClassFile.FieldType)) ∈ tblG := tm_0 (tm_t (tm_2 (List.mem_of_getElem? (i := 35) rfl))) rfl
theorem tw_276 : (Jvm.Cond.methodLink "SettingsInLayers$Row" (3 : Nat) ({ cls := "java/lang/Object", name := "<init>", desc := "()V" } : Jvm.MethodName)) ∈ tblG := tm_0 (tm_t (tm_2 (List.mem_of_getElem? (i := 36) rfl))) rfl
theorem tw_277 : (Jvm.Cond.fieldLink "SettingsInLayers$Row" (9 : Nat) "SettingsInLayers$Row" "numbers" "[I") ∈ tblG := tm_0 (tm_t (tm_2 (List.mem_of_getElem? (i := 37) rfl))) rfl
theorem tw_278 : (Jvm.Cond.fieldLink "SettingsInLayers$Row" (15 : Nat) "SettingsInLayers$Row" "size" "I") ∈ tblG := tm_0 (tm_t (tm_2 (List.mem_of_getElem? (i := 38) rfl))) rfl
theorem tw_279 : (Jvm.Cond.fieldLink "SettingsInLayers" (259 : Nat) "SettingsInLayers$Row" "size" "I") ∈ tblG := tm_0 (tm_t (tm_2 (List.mem_of_getElem? (i := 39) rfl))) rfl
theorem tw_285 : (Jvm.Cond.classLink "SettingsInLayers" (43 : Nat) "SettingsInLayers$Draws") ∈ tblG := tm_0 (tm_t (tm_2 (List.mem_of_getElem? (i := 45) rfl))) rfl
theorem tw_286 : (Jvm.Cond.instantiable "SettingsInLayers$Draws" (1 : Nat)) ∈ tblG := tm_0 (tm_t (tm_2 (List.mem_of_getElem? (i := 46) rfl))) rfl
theorem tw_288 : (Jvm.Cond.instanceMethod ({ cls := "SettingsInLayers$Draws", name := "<init>", desc := "()V" } : Jvm.MethodName)) ∈ tblG := tm_0 (tm_t (tm_2 (List.mem_of_getElem? (i := 48) rfl))) rfl
theorem tw_289 : (Jvm.Cond.code ({ cls := "SettingsInLayers$Draws", name := "<init>", desc := "()V" } : Jvm.MethodName) prog_2_method_1_code (1 : Nat) (Option.none : Option Jvm.ClassFile.FieldType)) ∈ tblG := tm_0 (tm_t (tm_2 (List.mem_of_getElem? (i := 49) rfl))) rfl
theorem tw_290 : (Jvm.Cond.methodLink "SettingsInLayers$Draws" (1 : Nat) ({ cls := "java/lang/Object", name := "<init>", desc := "()V" } : Jvm.MethodName)) ∈ tblG := tm_0 (tm_t (tm_2 (List.mem_of_getElem? (i := 50) rfl))) rfl
theorem tw_291 : (Jvm.Cond.fieldLink "SettingsInLayers$Draws" (7 : Nat) "SettingsInLayers$Draws" "z" "I") ∈ tblG := tm_0 (tm_t (tm_2 (List.mem_of_getElem? (i := 51) rfl))) rfl
theorem tw_292 : (Jvm.Cond.fieldLink "SettingsInLayers" (263 : Nat) "SettingsInLayers$Draws" "z" "I") ∈ tblG := tm_0 (tm_t (tm_2 (List.mem_of_getElem? (i := 52) rfl))) rfl
theorem tw_296 : (Jvm.Cond.classLink "SettingsInLayers" (50 : Nat) "SettingsInLayers$Outcome") ∈ tblG := tm_0 (tm_t (tm_2 (List.mem_of_getElem? (i := 56) rfl))) rfl
theorem tw_298 : (Jvm.Cond.fieldLink "SettingsInLayers" (10 : Nat) "SettingsInLayers" "now" "LSettingsInLayers$Scene;") ∈ tblG := tm_0 (tm_t (tm_2 (List.mem_of_getElem? (i := 58) rfl))) rfl
theorem tw_299 : (Jvm.Cond.fieldLink "SettingsInLayers" (16 : Nat) "SettingsInLayers" "kept" "LSettingsInLayers$Scene;") ∈ tblG := tm_0 (tm_t (tm_2 (List.mem_of_getElem? (i := 59) rfl))) rfl
theorem tw_300 : (Jvm.Cond.fieldLink "SettingsInLayers" (19 : Nat) "SettingsInLayers" "trial" "LSettingsInLayers$Scene;") ∈ tblG := tm_0 (tm_t (tm_2 (List.mem_of_getElem? (i := 60) rfl))) rfl
theorem tw_301 : (Jvm.Cond.fieldLink "SettingsInLayers" (25 : Nat) "SettingsInLayers" "resolver" "LSettingsInLayers$Resolver;") ∈ tblG := tm_0 (tm_t (tm_2 (List.mem_of_getElem? (i := 61) rfl))) rfl
theorem tw_302 : (Jvm.Cond.fieldLink "SettingsInLayers" (32 : Nat) "SettingsInLayers" "told" "LSettingsInLayers$Told;") ∈ tblG := tm_0 (tm_t (tm_2 (List.mem_of_getElem? (i := 62) rfl))) rfl
theorem tw_303 : (Jvm.Cond.fieldLink "SettingsInLayers" (39 : Nat) "SettingsInLayers" "row" "LSettingsInLayers$Row;") ∈ tblG := tm_0 (tm_t (tm_2 (List.mem_of_getElem? (i := 63) rfl))) rfl
theorem tw_304 : (Jvm.Cond.fieldLink "SettingsInLayers" (46 : Nat) "SettingsInLayers" "draws" "LSettingsInLayers$Draws;") ∈ tblG := tm_0 (tm_t (tm_2 (List.mem_of_getElem? (i := 64) rfl))) rfl
theorem tw_305 : (Jvm.Cond.fieldLink "SettingsInLayers" (52 : Nat) "SettingsInLayers" "present" "[LSettingsInLayers$Outcome;") ∈ tblG := tm_0 (tm_t (tm_2 (List.mem_of_getElem? (i := 65) rfl))) rfl
theorem tw_306 : (Jvm.Cond.fieldLink "SettingsInLayers" (56 : Nat) "SettingsInLayers" "refusals" "[I") ∈ tblG := tm_0 (tm_t (tm_2 (List.mem_of_getElem? (i := 66) rfl))) rfl
theorem tw_307 : (Jvm.Cond.fieldLink "SettingsInLayers" (239 : Nat) "SettingsInLayers" "hasImage" "Z") ∈ tblG := tm_0 (tm_t (tm_2 (List.mem_of_getElem? (i := 67) rfl))) rfl
theorem tw_329 : (Jvm.Cond.methodLink "SettingsInLayersLaw" (13 : Nat) ({ cls := "SettingsInLayers", name := "letter", desc := "(I)I" } : Jvm.MethodName)) ∈ tblG := tm_0 (tm_t (tm_2 (List.mem_of_getElem? (i := 89) rfl))) rfl
theorem tw_330 : (Jvm.Cond.instanceMethod ({ cls := "SettingsInLayers", name := "letter", desc := "(I)I" } : Jvm.MethodName)) ∈ tblG := tm_0 (tm_t (tm_2 (List.mem_of_getElem? (i := 90) rfl))) rfl
theorem tw_331 : (Jvm.Cond.selects "SettingsInLayers" ({ cls := "SettingsInLayers", name := "letter", desc := "(I)I" } : Jvm.MethodName) ({ cls := "SettingsInLayers", name := "letter", desc := "(I)I" } : Jvm.MethodName)) ∈ tblG := tm_0 (tm_t (tm_2 (List.mem_of_getElem? (i := 91) rfl))) rfl
theorem tw_332 : (Jvm.Cond.code ({ cls := "SettingsInLayers", name := "letter", desc := "(I)I" } : Jvm.MethodName) prog_1_method_2_code (2 : Nat) (Option.some Jvm.ClassFile.FieldType.int)) ∈ tblG := tm_0 (tm_t (tm_2 (List.mem_of_getElem? (i := 92) rfl))) rfl
theorem tw_333 : (Jvm.Cond.methodLink "SettingsInLayers" (61 : Nat) ({ cls := "SettingsInLayers", name := "refuse", desc := "(I)I" } : Jvm.MethodName)) ∈ tblG := tm_0 (tm_t (tm_2 (List.mem_of_getElem? (i := 93) rfl))) rfl
theorem tw_335 : (Jvm.Cond.instanceMethod ({ cls := "SettingsInLayers", name := "refuse", desc := "(I)I" } : Jvm.MethodName)) ∈ tblG := tm_0 (tm_t (tm_2 (List.mem_of_getElem? (i := 95) rfl))) rfl
theorem tw_336 : (Jvm.Cond.code ({ cls := "SettingsInLayers", name := "refuse", desc := "(I)I" } : Jvm.MethodName) prog_1_method_41_code (2 : Nat) (Option.some Jvm.ClassFile.FieldType.int)) ∈ tblG := tm_0 (tm_t (tm_2 (List.mem_of_getElem? (i := 96) rfl))) rfl
theorem tw_337 : (Jvm.Cond.methodLink "SettingsInLayers" (69 : Nat) ({ cls := "SettingsInLayers$Told", name := "append", desc := "(I)I" } : Jvm.MethodName)) ∈ tblG := tm_0 (tm_t (tm_2 (List.mem_of_getElem? (i := 97) rfl))) rfl
theorem tw_338 : (Jvm.Cond.instanceMethod ({ cls := "SettingsInLayers$Told", name := "append", desc := "(I)I" } : Jvm.MethodName)) ∈ tblG := tm_0 (tm_t (tm_2 (List.mem_of_getElem? (i := 98) rfl))) rfl
theorem tw_339 : (Jvm.Cond.selects "SettingsInLayers$Told" ({ cls := "SettingsInLayers$Told", name := "append", desc := "(I)I" } : Jvm.MethodName) ({ cls := "SettingsInLayers$Told", name := "append", desc := "(I)I" } : Jvm.MethodName)) ∈ tblG := tm_0 (tm_t (tm_2 (List.mem_of_getElem? (i := 99) rfl))) rfl
theorem tw_340 : (Jvm.Cond.code ({ cls := "SettingsInLayers$Told", name := "append", desc := "(I)I" } : Jvm.MethodName) prog_8_method_2_code (2 : Nat) (Option.some Jvm.ClassFile.FieldType.int)) ∈ tblG := tm_0 (tm_t (tm_2 (List.mem_of_getElem? (i := 100) rfl))) rfl
theorem tw_341 : (Jvm.Cond.methodLink "SettingsInLayersLaw" (18 : Nat) ({ cls := "SettingsInLayers", name := "settings", desc := "()I" } : Jvm.MethodName)) ∈ tblG := tm_0 (tm_t (tm_2 (List.mem_of_getElem? (i := 101) rfl))) rfl
theorem tw_342 : (Jvm.Cond.instanceMethod ({ cls := "SettingsInLayers", name := "settings", desc := "()I" } : Jvm.MethodName)) ∈ tblG := tm_0 (tm_t (tm_2 (List.mem_of_getElem? (i := 102) rfl))) rfl
theorem tw_343 : (Jvm.Cond.selects "SettingsInLayers" ({ cls := "SettingsInLayers", name := "settings", desc := "()I" } : Jvm.MethodName) ({ cls := "SettingsInLayers", name := "settings", desc := "()I" } : Jvm.MethodName)) ∈ tblG := tm_0 (tm_t (tm_2 (List.mem_of_getElem? (i := 103) rfl))) rfl
theorem tw_344 : (Jvm.Cond.code ({ cls := "SettingsInLayers", name := "settings", desc := "()I" } : Jvm.MethodName) prog_1_method_3_code (2 : Nat) (Option.some Jvm.ClassFile.FieldType.int)) ∈ tblG := tm_0 (tm_t (tm_2 (List.mem_of_getElem? (i := 104) rfl))) rfl
theorem tw_345 : (Jvm.Cond.methodLink "SettingsInLayers" (72 : Nat) ({ cls := "SettingsInLayers$Told", name := "isWellFormed", desc := "()Z" } : Jvm.MethodName)) ∈ tblG := tm_0 (tm_t (tm_2 (List.mem_of_getElem? (i := 105) rfl))) rfl
theorem tw_346 : (Jvm.Cond.instanceMethod ({ cls := "SettingsInLayers$Told", name := "isWellFormed", desc := "()Z" } : Jvm.MethodName)) ∈ tblG := tm_0 (tm_t (tm_2 (List.mem_of_getElem? (i := 106) rfl))) rfl
theorem tw_347 : (Jvm.Cond.selects "SettingsInLayers$Told" ({ cls := "SettingsInLayers$Told", name := "isWellFormed", desc := "()Z" } : Jvm.MethodName) ({ cls := "SettingsInLayers$Told", name := "isWellFormed", desc := "()Z" } : Jvm.MethodName)) ∈ tblG := tm_0 (tm_t (tm_2 (List.mem_of_getElem? (i := 107) rfl))) rfl
theorem tw_348 : (Jvm.Cond.code ({ cls := "SettingsInLayers$Told", name := "isWellFormed", desc := "()Z" } : Jvm.MethodName) prog_8_method_3_code (2 : Nat) (Option.some Jvm.ClassFile.FieldType.boolean)) ∈ tblG := tm_0 (tm_t (tm_2 (List.mem_of_getElem? (i := 108) rfl))) rfl
theorem tw_349 : (Jvm.Cond.methodLink "SettingsInLayers$Told" (29 : Nat) ({ cls := "SettingsInLayers$Told", name := "readStatement", desc := "()Z" } : Jvm.MethodName)) ∈ tblG := tm_0 (tm_t (tm_2 (List.mem_of_getElem? (i := 109) rfl))) rfl
theorem tw_350 : (Jvm.Cond.instanceMethod ({ cls := "SettingsInLayers$Told", name := "readStatement", desc := "()Z" } : Jvm.MethodName)) ∈ tblG := tm_0 (tm_t (tm_2 (List.mem_of_getElem? (i := 110) rfl))) rfl
theorem tw_351 : (Jvm.Cond.selects "SettingsInLayers$Told" ({ cls := "SettingsInLayers$Told", name := "readStatement", desc := "()Z" } : Jvm.MethodName) ({ cls := "SettingsInLayers$Told", name := "readStatement", desc := "()Z" } : Jvm.MethodName)) ∈ tblG := tm_0 (tm_t (tm_2 (List.mem_of_getElem? (i := 111) rfl))) rfl
theorem tw_352 : (Jvm.Cond.code ({ cls := "SettingsInLayers$Told", name := "readStatement", desc := "()Z" } : Jvm.MethodName) prog_8_method_4_code (1 : Nat) (Option.some Jvm.ClassFile.FieldType.boolean)) ∈ tblG := tm_0 (tm_t (tm_2 (List.mem_of_getElem? (i := 112) rfl))) rfl
theorem tw_353 : (Jvm.Cond.methodLink "SettingsInLayers$Told" (33 : Nat) ({ cls := "SettingsInLayers$Told", name := "letterHere", desc := "()I" } : Jvm.MethodName)) ∈ tblG := tm_0 (tm_t (tm_2 (List.mem_of_getElem? (i := 113) rfl))) rfl
theorem tw_355 : (Jvm.Cond.instanceMethod ({ cls := "SettingsInLayers$Told", name := "letterHere", desc := "()I" } : Jvm.MethodName)) ∈ tblG := tm_0 (tm_t (tm_2 (List.mem_of_getElem? (i := 115) rfl))) rfl
theorem tw_356 : (Jvm.Cond.code ({ cls := "SettingsInLayers$Told", name := "letterHere", desc := "()I" } : Jvm.MethodName) prog_8_method_18_code (1 : Nat) (Option.some Jvm.ClassFile.FieldType.int)) ∈ tblG := tm_0 (tm_t (tm_2 (List.mem_of_getElem? (i := 116) rfl))) rfl
theorem tw_357 : (Jvm.Cond.methodLink "SettingsInLayers$Told" (40 : Nat) ({ cls := "SettingsInLayers$Told", name := "readLayer", desc := "()Z" } : Jvm.MethodName)) ∈ tblG := tm_0 (tm_t (tm_2 (List.mem_of_getElem? (i := 117) rfl))) rfl
theorem tw_359 : (Jvm.Cond.instanceMethod ({ cls := "SettingsInLayers$Told", name := "readLayer", desc := "()Z" } : Jvm.MethodName)) ∈ tblG := tm_0 (tm_t (tm_2 (List.mem_of_getElem? (i := 119) rfl))) rfl
theorem tw_360 : (Jvm.Cond.code ({ cls := "SettingsInLayers$Told", name := "readLayer", desc := "()Z" } : Jvm.MethodName) prog_8_method_7_code (1 : Nat) (Option.some Jvm.ClassFile.FieldType.boolean)) ∈ tblG := tm_0 (tm_t (tm_2 (List.mem_of_getElem? (i := 120) rfl))) rfl
theorem tw_361 : (Jvm.Cond.methodLink "SettingsInLayers$Told" (77 : Nat) ({ cls := "SettingsInLayers$Told", name := "readDigit", desc := "()I" } : Jvm.MethodName)) ∈ tblG := tm_0 (tm_t (tm_2 (List.mem_of_getElem? (i := 121) rfl))) rfl
theorem tw_363 : (Jvm.Cond.instanceMethod ({ cls := "SettingsInLayers$Told", name := "readDigit", desc := "()I" } : Jvm.MethodName)) ∈ tblG := tm_0 (tm_t (tm_2 (List.mem_of_getElem? (i := 123) rfl))) rfl
theorem tw_364 : (Jvm.Cond.code ({ cls := "SettingsInLayers$Told", name := "readDigit", desc := "()I" } : Jvm.MethodName) prog_8_method_16_code (2 : Nat) (Option.some Jvm.ClassFile.FieldType.int)) ∈ tblG := tm_0 (tm_t (tm_2 (List.mem_of_getElem? (i := 124) rfl))) rfl
theorem tw_365 : (Jvm.Cond.methodLink "SettingsInLayers$Told" (43 : Nat) ({ cls := "SettingsInLayers$Told", name := "readKind", desc := "()Z" } : Jvm.MethodName)) ∈ tblG := tm_0 (tm_t (tm_2 (List.mem_of_getElem? (i := 125) rfl))) rfl
theorem tw_367 : (Jvm.Cond.instanceMethod ({ cls := "SettingsInLayers$Told", name := "readKind", desc := "()Z" } : Jvm.MethodName)) ∈ tblG := tm_0 (tm_t (tm_2 (List.mem_of_getElem? (i := 127) rfl))) rfl
theorem tw_368 : (Jvm.Cond.code ({ cls := "SettingsInLayers$Told", name := "readKind", desc := "()Z" } : Jvm.MethodName) prog_8_method_8_code (1 : Nat) (Option.some Jvm.ClassFile.FieldType.boolean)) ∈ tblG := tm_0 (tm_t (tm_2 (List.mem_of_getElem? (i := 128) rfl))) rfl
theorem tw_369 : (Jvm.Cond.methodLink "SettingsInLayers$Told" (46 : Nat) ({ cls := "SettingsInLayers$Told", name := "readFigure", desc := "()Z" } : Jvm.MethodName)) ∈ tblG := tm_0 (tm_t (tm_2 (List.mem_of_getElem? (i := 129) rfl))) rfl
theorem tw_371 : (Jvm.Cond.instanceMethod ({ cls := "SettingsInLayers$Told", name := "readFigure", desc := "()Z" } : Jvm.MethodName)) ∈ tblG := tm_0 (tm_t (tm_2 (List.mem_of_getElem? (i := 131) rfl))) rfl
theorem tw_372 : (Jvm.Cond.code ({ cls := "SettingsInLayers$Told", name := "readFigure", desc := "()Z" } : Jvm.MethodName) prog_8_method_9_code (1 : Nat) (Option.some Jvm.ClassFile.FieldType.boolean)) ∈ tblG := tm_0 (tm_t (tm_2 (List.mem_of_getElem? (i := 132) rfl))) rfl
theorem tw_373 : (Jvm.Cond.methodLink "SettingsInLayers$Told" (49 : Nat) ({ cls := "SettingsInLayers$Told", name := "readSign", desc := "(C)Z" } : Jvm.MethodName)) ∈ tblG := tm_0 (tm_t (tm_2 (List.mem_of_getElem? (i := 133) rfl))) rfl
theorem tw_375 : (Jvm.Cond.instanceMethod ({ cls := "SettingsInLayers$Told", name := "readSign", desc := "(C)Z" } : Jvm.MethodName)) ∈ tblG := tm_0 (tm_t (tm_2 (List.mem_of_getElem? (i := 135) rfl))) rfl
theorem tw_376 : (Jvm.Cond.code ({ cls := "SettingsInLayers$Told", name := "readSign", desc := "(C)Z" } : Jvm.MethodName) prog_8_method_14_code (2 : Nat) (Option.some Jvm.ClassFile.FieldType.boolean)) ∈ tblG := tm_0 (tm_t (tm_2 (List.mem_of_getElem? (i := 136) rfl))) rfl
theorem tw_377 : (Jvm.Cond.methodLink "SettingsInLayers$Told" (53 : Nat) ({ cls := "SettingsInLayers$Told", name := "readKey", desc := "()Z" } : Jvm.MethodName)) ∈ tblG := tm_0 (tm_t (tm_2 (List.mem_of_getElem? (i := 137) rfl))) rfl
theorem tw_379 : (Jvm.Cond.instanceMethod ({ cls := "SettingsInLayers$Told", name := "readKey", desc := "()Z" } : Jvm.MethodName)) ∈ tblG := tm_0 (tm_t (tm_2 (List.mem_of_getElem? (i := 139) rfl))) rfl
theorem tw_380 : (Jvm.Cond.code ({ cls := "SettingsInLayers$Told", name := "readKey", desc := "()Z" } : Jvm.MethodName) prog_8_method_11_code (1 : Nat) (Option.some Jvm.ClassFile.FieldType.boolean)) ∈ tblG := tm_0 (tm_t (tm_2 (List.mem_of_getElem? (i := 140) rfl))) rfl
theorem tw_381 : (Jvm.Cond.methodLink "SettingsInLayers$Told" (99 : Nat) ({ cls := "SettingsInLayers$Told", name := "readKeyLetter", desc := "()I" } : Jvm.MethodName)) ∈ tblG := tm_0 (tm_t (tm_2 (List.mem_of_getElem? (i := 141) rfl))) rfl
theorem tw_383 : (Jvm.Cond.instanceMethod ({ cls := "SettingsInLayers$Told", name := "readKeyLetter", desc := "()I" } : Jvm.MethodName)) ∈ tblG := tm_0 (tm_t (tm_2 (List.mem_of_getElem? (i := 143) rfl))) rfl
theorem tw_384 : (Jvm.Cond.code ({ cls := "SettingsInLayers$Told", name := "readKeyLetter", desc := "()I" } : Jvm.MethodName) prog_8_method_17_code (2 : Nat) (Option.some Jvm.ClassFile.FieldType.int)) ∈ tblG := tm_0 (tm_t (tm_2 (List.mem_of_getElem? (i := 144) rfl))) rfl
theorem tw_386 : (Jvm.Cond.static ({ cls := "SettingsInLayers", name := "noKey", desc := "(I)Z" } : Jvm.MethodName)) ∈ tblG := tm_0 (tm_t (tm_2 (List.mem_of_getElem? (i := 146) rfl))) rfl
theorem tw_387 : (Jvm.Cond.code ({ cls := "SettingsInLayers", name := "noKey", desc := "(I)Z" } : Jvm.MethodName) prog_1_method_38_code (1 : Nat) (Option.some Jvm.ClassFile.FieldType.boolean)) ∈ tblG := tm_0 (tm_t (tm_2 (List.mem_of_getElem? (i := 147) rfl))) rfl
theorem tw_388 : (Jvm.Cond.methodLink "SettingsInLayers$Told" (56 : Nat) ({ cls := "SettingsInLayers$Told", name := "readEntry", desc := "()Z" } : Jvm.MethodName)) ∈ tblG := tm_0 (tm_t (tm_2 (List.mem_of_getElem? (i := 148) rfl))) rfl
theorem tw_390 : (Jvm.Cond.instanceMethod ({ cls := "SettingsInLayers$Told", name := "readEntry", desc := "()Z" } : Jvm.MethodName)) ∈ tblG := tm_0 (tm_t (tm_2 (List.mem_of_getElem? (i := 150) rfl))) rfl
theorem tw_391 : (Jvm.Cond.code ({ cls := "SettingsInLayers$Told", name := "readEntry", desc := "()Z" } : Jvm.MethodName) prog_8_method_5_code (1 : Nat) (Option.some Jvm.ClassFile.FieldType.boolean)) ∈ tblG := tm_0 (tm_t (tm_2 (List.mem_of_getElem? (i := 151) rfl))) rfl
theorem tw_392 : (Jvm.Cond.methodLink "SettingsInLayers$Told" (62 : Nat) ({ cls := "SettingsInLayers$Statement", name := "beginEntry", desc := "()V" } : Jvm.MethodName)) ∈ tblG := tm_0 (tm_t (tm_2 (List.mem_of_getElem? (i := 152) rfl))) rfl
theorem tw_393 : (Jvm.Cond.instanceMethod ({ cls := "SettingsInLayers$Statement", name := "beginEntry", desc := "()V" } : Jvm.MethodName)) ∈ tblG := tm_0 (tm_t (tm_2 (List.mem_of_getElem? (i := 153) rfl))) rfl
theorem tw_394 : (Jvm.Cond.selects "SettingsInLayers$Statement" ({ cls := "SettingsInLayers$Statement", name := "beginEntry", desc := "()V" } : Jvm.MethodName) ({ cls := "SettingsInLayers$Statement", name := "beginEntry", desc := "()V" } : Jvm.MethodName)) ∈ tblG := tm_0 (tm_t (tm_2 (List.mem_of_getElem? (i := 154) rfl))) rfl
theorem tw_395 : (Jvm.Cond.code ({ cls := "SettingsInLayers$Statement", name := "beginEntry", desc := "()V" } : Jvm.MethodName) prog_7_method_2_code (1 : Nat) (Option.none : Option Jvm.ClassFile.FieldType)) ∈ tblG := tm_0 (tm_t (tm_2 (List.mem_of_getElem? (i := 155) rfl))) rfl
theorem tw_396 : (Jvm.Cond.methodLink "SettingsInLayers$Told" (68 : Nat) ({ cls := "SettingsInLayers$Told", name := "readNumber", desc := "()Z" } : Jvm.MethodName)) ∈ tblG := tm_0 (tm_t (tm_2 (List.mem_of_getElem? (i := 156) rfl))) rfl
theorem tw_398 : (Jvm.Cond.instanceMethod ({ cls := "SettingsInLayers$Told", name := "readNumber", desc := "()Z" } : Jvm.MethodName)) ∈ tblG := tm_0 (tm_t (tm_2 (List.mem_of_getElem? (i := 158) rfl))) rfl
theorem tw_399 : (Jvm.Cond.code ({ cls := "SettingsInLayers$Told", name := "readNumber", desc := "()Z" } : Jvm.MethodName) prog_8_method_13_code (1 : Nat) (Option.some Jvm.ClassFile.FieldType.boolean)) ∈ tblG := tm_0 (tm_t (tm_2 (List.mem_of_getElem? (i := 159) rfl))) rfl
theorem tw_400 : (Jvm.Cond.methodLink "SettingsInLayers$Told" (80 : Nat) ({ cls := "SettingsInLayers$Told", name := "readPair", desc := "()I" } : Jvm.MethodName)) ∈ tblG := tm_0 (tm_t (tm_2 (List.mem_of_getElem? (i := 160) rfl))) rfl
theorem tw_402 : (Jvm.Cond.instanceMethod ({ cls := "SettingsInLayers$Told", name := "readPair", desc := "()I" } : Jvm.MethodName)) ∈ tblG := tm_0 (tm_t (tm_2 (List.mem_of_getElem? (i := 162) rfl))) rfl
theorem tw_403 : (Jvm.Cond.code ({ cls := "SettingsInLayers$Told", name := "readPair", desc := "()I" } : Jvm.MethodName) prog_8_method_15_code (3 : Nat) (Option.some Jvm.ClassFile.FieldType.int)) ∈ tblG := tm_0 (tm_t (tm_2 (List.mem_of_getElem? (i := 163) rfl))) rfl
theorem tw_404 : (Jvm.Cond.methodLink "SettingsInLayers$Told" (71 : Nat) ({ cls := "SettingsInLayers$Told", name := "readItems", desc := "()Z" } : Jvm.MethodName)) ∈ tblG := tm_0 (tm_t (tm_2 (List.mem_of_getElem? (i := 164) rfl))) rfl
theorem tw_406 : (Jvm.Cond.instanceMethod ({ cls := "SettingsInLayers$Told", name := "readItems", desc := "()Z" } : Jvm.MethodName)) ∈ tblG := tm_0 (tm_t (tm_2 (List.mem_of_getElem? (i := 166) rfl))) rfl
theorem tw_407 : (Jvm.Cond.code ({ cls := "SettingsInLayers$Told", name := "readItems", desc := "()Z" } : Jvm.MethodName) prog_8_method_6_code (4 : Nat) (Option.some Jvm.ClassFile.FieldType.boolean)) ∈ tblG := tm_0 (tm_t (tm_2 (List.mem_of_getElem? (i := 167) rfl))) rfl
theorem tw_408 : (Jvm.Cond.methodLink "SettingsInLayers$Told" (83 : Nat) ({ cls := "SettingsInLayers$Statement", name := "addItem", desc := "(II)V" } : Jvm.MethodName)) ∈ tblG := tm_0 (tm_t (tm_2 (List.mem_of_getElem? (i := 168) rfl))) rfl
theorem tw_409 : (Jvm.Cond.instanceMethod ({ cls := "SettingsInLayers$Statement", name := "addItem", desc := "(II)V" } : Jvm.MethodName)) ∈ tblG := tm_0 (tm_t (tm_2 (List.mem_of_getElem? (i := 169) rfl))) rfl
theorem tw_410 : (Jvm.Cond.selects "SettingsInLayers$Statement" ({ cls := "SettingsInLayers$Statement", name := "addItem", desc := "(II)V" } : Jvm.MethodName) ({ cls := "SettingsInLayers$Statement", name := "addItem", desc := "(II)V" } : Jvm.MethodName)) ∈ tblG := tm_0 (tm_t (tm_2 (List.mem_of_getElem? (i := 170) rfl))) rfl
theorem tw_411 : (Jvm.Cond.code ({ cls := "SettingsInLayers$Statement", name := "addItem", desc := "(II)V" } : Jvm.MethodName) prog_7_method_3_code (3 : Nat) (Option.none : Option Jvm.ClassFile.FieldType)) ∈ tblG := tm_0 (tm_t (tm_2 (List.mem_of_getElem? (i := 171) rfl))) rfl
theorem tw_412 : (Jvm.Cond.methodLink "SettingsInLayers$Told" (74 : Nat) ({ cls := "SettingsInLayers$Told", name := "readOther", desc := "()Z" } : Jvm.MethodName)) ∈ tblG := tm_0 (tm_t (tm_2 (List.mem_of_getElem? (i := 172) rfl))) rfl
theorem tw_414 : (Jvm.Cond.instanceMethod ({ cls := "SettingsInLayers$Told", name := "readOther", desc := "()Z" } : Jvm.MethodName)) ∈ tblG := tm_0 (tm_t (tm_2 (List.mem_of_getElem? (i := 174) rfl))) rfl
theorem tw_415 : (Jvm.Cond.code ({ cls := "SettingsInLayers$Told", name := "readOther", desc := "()Z" } : Jvm.MethodName) prog_8_method_12_code (1 : Nat) (Option.some Jvm.ClassFile.FieldType.boolean)) ∈ tblG := tm_0 (tm_t (tm_2 (List.mem_of_getElem? (i := 175) rfl))) rfl
theorem tw_416 : (Jvm.Cond.methodLink "SettingsInLayers$Told" (59 : Nat) ({ cls := "SettingsInLayers$Told", name := "readManner", desc := "()Z" } : Jvm.MethodName)) ∈ tblG := tm_0 (tm_t (tm_2 (List.mem_of_getElem? (i := 176) rfl))) rfl
theorem tw_418 : (Jvm.Cond.instanceMethod ({ cls := "SettingsInLayers$Told", name := "readManner", desc := "()Z" } : Jvm.MethodName)) ∈ tblG := tm_0 (tm_t (tm_2 (List.mem_of_getElem? (i := 178) rfl))) rfl
theorem tw_419 : (Jvm.Cond.code ({ cls := "SettingsInLayers$Told", name := "readManner", desc := "()Z" } : Jvm.MethodName) prog_8_method_10_code (1 : Nat) (Option.some Jvm.ClassFile.FieldType.boolean)) ∈ tblG := tm_0 (tm_t (tm_2 (List.mem_of_getElem? (i := 179) rfl))) rfl
theorem tw_420 : (Jvm.Cond.methodLink "SettingsInLayers" (76 : Nat) ({ cls := "SettingsInLayers", name := "applyTold", desc := "()I" } : Jvm.MethodName)) ∈ tblG := tm_0 (tm_t (tm_2 (List.mem_of_getElem? (i := 180) rfl))) rfl
theorem tw_422 : (Jvm.Cond.instanceMethod ({ cls := "SettingsInLayers", name := "applyTold", desc := "()I" } : Jvm.MethodName)) ∈ tblG := tm_0 (tm_t (tm_2 (List.mem_of_getElem? (i := 182) rfl))) rfl
theorem tw_423 : (Jvm.Cond.code ({ cls := "SettingsInLayers", name := "applyTold", desc := "()I" } : Jvm.MethodName) prog_1_method_45_code (3 : Nat) (Option.some Jvm.ClassFile.FieldType.int)) ∈ tblG := tm_0 (tm_t (tm_2 (List.mem_of_getElem? (i := 183) rfl))) rfl
theorem tw_424 : (Jvm.Cond.methodLink "SettingsInLayers" (216 : Nat) ({ cls := "SettingsInLayers$Scene", name := "become", desc := "(LSettingsInLayers$Scene;)V" } : Jvm.MethodName)) ∈ tblG := tm_0 (tm_t (tm_2 (List.mem_of_getElem? (i := 184) rfl))) rfl
theorem tw_425 : (Jvm.Cond.instanceMethod ({ cls := "SettingsInLayers$Scene", name := "become", desc := "(LSettingsInLayers$Scene;)V" } : Jvm.MethodName)) ∈ tblG := tm_0 (tm_t (tm_2 (List.mem_of_getElem? (i := 185) rfl))) rfl
theorem tw_426 : (Jvm.Cond.selects "SettingsInLayers$Scene" ({ cls := "SettingsInLayers$Scene", name := "become", desc := "(LSettingsInLayers$Scene;)V" } : Jvm.MethodName) ({ cls := "SettingsInLayers$Scene", name := "become", desc := "(LSettingsInLayers$Scene;)V" } : Jvm.MethodName)) ∈ tblG := tm_0 (tm_t (tm_2 (List.mem_of_getElem? (i := 186) rfl))) rfl
theorem tw_427 : (Jvm.Cond.code ({ cls := "SettingsInLayers$Scene", name := "become", desc := "(LSettingsInLayers$Scene;)V" } : Jvm.MethodName) prog_6_method_2_code (2 : Nat) (Option.none : Option Jvm.ClassFile.FieldType)) ∈ tblG := tm_0 (tm_t (tm_2 (List.mem_of_getElem? (i := 187) rfl))) rfl
theorem tw_428 : (Jvm.Cond.methodLink "SettingsInLayers$Scene" (50 : Nat) ({ cls := "java/lang/System", name := "arraycopy", desc := "(Ljava/lang/Object;ILjava/lang/Object;II)V" } : Jvm.MethodName)) ∈ tblG := tm_0 (tm_t (tm_2 (List.mem_of_getElem? (i := 188) rfl))) rfl
theorem tw_429 : (Jvm.Cond.static ({ cls := "java/lang/System", name := "arraycopy", desc := "(Ljava/lang/Object;ILjava/lang/Object;II)V" } : Jvm.MethodName)) ∈ tblG := tm_0 (tm_t (tm_2 (List.mem_of_getElem? (i := 189) rfl))) rfl
theorem tw_430 : (Jvm.Cond.native ({ cls := "java/lang/System", name := "arraycopy", desc := "(Ljava/lang/Object;ILjava/lang/Object;II)V" } : Jvm.MethodName)) ∈ tblG := tm_0 (tm_t (tm_2 (List.mem_of_getElem? (i := 190) rfl))) rfl
theorem tw_431 : (Jvm.Cond.methodLink "SettingsInLayers" (286 : Nat) ({ cls := "SettingsInLayers$Told", name := "readStatement", desc := "()Z" } : Jvm.MethodName)) ∈ tblG := tm_0 (tm_t (tm_2 (List.mem_of_getElem? (i := 191) rfl))) rfl
theorem tw_432 : (Jvm.Cond.methodLink "SettingsInLayers" (293 : Nat) ({ cls := "SettingsInLayers$Statement", name := "applyTo", desc := "(LSettingsInLayers$Scene;)Z" } : Jvm.MethodName)) ∈ tblG := tm_0 (tm_t (tm_2 (List.mem_of_getElem? (i := 192) rfl))) rfl
theorem tw_433 : (Jvm.Cond.instanceMethod ({ cls := "SettingsInLayers$Statement", name := "applyTo", desc := "(LSettingsInLayers$Scene;)Z" } : Jvm.MethodName)) ∈ tblG := tm_0 (tm_t (tm_2 (List.mem_of_getElem? (i := 193) rfl))) rfl
theorem tw_434 : (Jvm.Cond.selects "SettingsInLayers$Statement" ({ cls := "SettingsInLayers$Statement", name := "applyTo", desc := "(LSettingsInLayers$Scene;)Z" } : Jvm.MethodName) ({ cls := "SettingsInLayers$Statement", name := "applyTo", desc := "(LSettingsInLayers$Scene;)Z" } : Jvm.MethodName)) ∈ tblG := tm_0 (tm_t (tm_2 (List.mem_of_getElem? (i := 194) rfl))) rfl
theorem tw_435 : (Jvm.Cond.code ({ cls := "SettingsInLayers$Statement", name := "applyTo", desc := "(LSettingsInLayers$Scene;)Z" } : Jvm.MethodName) prog_7_method_4_code (2 : Nat) (Option.some Jvm.ClassFile.FieldType.boolean)) ∈ tblG := tm_0 (tm_t (tm_2 (List.mem_of_getElem? (i := 195) rfl))) rfl
theorem tw_436 : (Jvm.Cond.methodLink "SettingsInLayers$Statement" (38 : Nat) ({ cls := "SettingsInLayers$Statement", name := "applyKind", desc := "(LSettingsInLayers$Scene;)Z" } : Jvm.MethodName)) ∈ tblG := tm_0 (tm_t (tm_2 (List.mem_of_getElem? (i := 196) rfl))) rfl
theorem tw_438 : (Jvm.Cond.instanceMethod ({ cls := "SettingsInLayers$Statement", name := "applyKind", desc := "(LSettingsInLayers$Scene;)Z" } : Jvm.MethodName)) ∈ tblG := tm_0 (tm_t (tm_2 (List.mem_of_getElem? (i := 198) rfl))) rfl
theorem tw_439 : (Jvm.Cond.code ({ cls := "SettingsInLayers$Statement", name := "applyKind", desc := "(LSettingsInLayers$Scene;)Z" } : Jvm.MethodName) prog_7_method_5_code (2 : Nat) (Option.some Jvm.ClassFile.FieldType.boolean)) ∈ tblG := tm_0 (tm_t (tm_2 (List.mem_of_getElem? (i := 199) rfl))) rfl
theorem tw_441 : (Jvm.Cond.static ({ cls := "SettingsInLayers", name := "noLayer", desc := "(I)Z" } : Jvm.MethodName)) ∈ tblG := tm_0 (tm_t (tm_2 (List.mem_of_getElem? (i := 201) rfl))) rfl
theorem tw_442 : (Jvm.Cond.code ({ cls := "SettingsInLayers", name := "noLayer", desc := "(I)Z" } : Jvm.MethodName) prog_1_method_37_code (1 : Nat) (Option.some Jvm.ClassFile.FieldType.boolean)) ∈ tblG := tm_0 (tm_t (tm_2 (List.mem_of_getElem? (i := 202) rfl))) rfl
theorem tw_443 : (Jvm.Cond.methodLink "SettingsInLayers$Statement" (67 : Nat) ({ cls := "SettingsInLayers$Scene", name := "putKind", desc := "(III)V" } : Jvm.MethodName)) ∈ tblG := tm_0 (tm_t (tm_2 (List.mem_of_getElem? (i := 203) rfl))) rfl
theorem tw_444 : (Jvm.Cond.instanceMethod ({ cls := "SettingsInLayers$Scene", name := "putKind", desc := "(III)V" } : Jvm.MethodName)) ∈ tblG := tm_0 (tm_t (tm_2 (List.mem_of_getElem? (i := 204) rfl))) rfl
theorem tw_445 : (Jvm.Cond.selects "SettingsInLayers$Scene" ({ cls := "SettingsInLayers$Scene", name := "putKind", desc := "(III)V" } : Jvm.MethodName) ({ cls := "SettingsInLayers$Scene", name := "putKind", desc := "(III)V" } : Jvm.MethodName)) ∈ tblG := tm_0 (tm_t (tm_2 (List.mem_of_getElem? (i := 205) rfl))) rfl
theorem tw_446 : (Jvm.Cond.code ({ cls := "SettingsInLayers$Scene", name := "putKind", desc := "(III)V" } : Jvm.MethodName) prog_6_method_5_code (4 : Nat) (Option.none : Option Jvm.ClassFile.FieldType)) ∈ tblG := tm_0 (tm_t (tm_2 (List.mem_of_getElem? (i := 206) rfl))) rfl
theorem tw_447 : (Jvm.Cond.methodLink "SettingsInLayers$Statement" (42 : Nat) ({ cls := "SettingsInLayers$Statement", name := "applyToggle", desc := "(LSettingsInLayers$Scene;)Z" } : Jvm.MethodName)) ∈ tblG := tm_0 (tm_t (tm_2 (List.mem_of_getElem? (i := 207) rfl))) rfl
theorem tw_449 : (Jvm.Cond.instanceMethod ({ cls := "SettingsInLayers$Statement", name := "applyToggle", desc := "(LSettingsInLayers$Scene;)Z" } : Jvm.MethodName)) ∈ tblG := tm_0 (tm_t (tm_2 (List.mem_of_getElem? (i := 209) rfl))) rfl
theorem tw_450 : (Jvm.Cond.code ({ cls := "SettingsInLayers$Statement", name := "applyToggle", desc := "(LSettingsInLayers$Scene;)Z" } : Jvm.MethodName) prog_7_method_6_code (2 : Nat) (Option.some Jvm.ClassFile.FieldType.boolean)) ∈ tblG := tm_0 (tm_t (tm_2 (List.mem_of_getElem? (i := 210) rfl))) rfl
theorem tw_451 : (Jvm.Cond.methodLink "SettingsInLayers$Statement" (73 : Nat) ({ cls := "SettingsInLayers$Scene", name := "toggle", desc := "(I)V" } : Jvm.MethodName)) ∈ tblG := tm_0 (tm_t (tm_2 (List.mem_of_getElem? (i := 211) rfl))) rfl
theorem tw_452 : (Jvm.Cond.instanceMethod ({ cls := "SettingsInLayers$Scene", name := "toggle", desc := "(I)V" } : Jvm.MethodName)) ∈ tblG := tm_0 (tm_t (tm_2 (List.mem_of_getElem? (i := 212) rfl))) rfl
theorem tw_453 : (Jvm.Cond.selects "SettingsInLayers$Scene" ({ cls := "SettingsInLayers$Scene", name := "toggle", desc := "(I)V" } : Jvm.MethodName) ({ cls := "SettingsInLayers$Scene", name := "toggle", desc := "(I)V" } : Jvm.MethodName)) ∈ tblG := tm_0 (tm_t (tm_2 (List.mem_of_getElem? (i := 213) rfl))) rfl
theorem tw_454 : (Jvm.Cond.code ({ cls := "SettingsInLayers$Scene", name := "toggle", desc := "(I)V" } : Jvm.MethodName) prog_6_method_4_code (2 : Nat) (Option.none : Option Jvm.ClassFile.FieldType)) ∈ tblG := tm_0 (tm_t (tm_2 (List.mem_of_getElem? (i := 214) rfl))) rfl
theorem tw_455 : (Jvm.Cond.methodLink "SettingsInLayers$Statement" (45 : Nat) ({ cls := "SettingsInLayers$Statement", name := "applyEntry", desc := "(LSettingsInLayers$Scene;)Z" } : Jvm.MethodName)) ∈ tblG := tm_0 (tm_t (tm_2 (List.mem_of_getElem? (i := 215) rfl))) rfl
theorem tw_457 : (Jvm.Cond.instanceMethod ({ cls := "SettingsInLayers$Statement", name := "applyEntry", desc := "(LSettingsInLayers$Scene;)Z" } : Jvm.MethodName)) ∈ tblG := tm_0 (tm_t (tm_2 (List.mem_of_getElem? (i := 217) rfl))) rfl
theorem tw_458 : (Jvm.Cond.code ({ cls := "SettingsInLayers$Statement", name := "applyEntry", desc := "(LSettingsInLayers$Scene;)Z" } : Jvm.MethodName) prog_7_method_7_code (4 : Nat) (Option.some Jvm.ClassFile.FieldType.boolean)) ∈ tblG := tm_0 (tm_t (tm_2 (List.mem_of_getElem? (i := 218) rfl))) rfl
theorem tw_460 : (Jvm.Cond.static ({ cls := "SettingsInLayers", name := "slotOf", desc := "(II)I" } : Jvm.MethodName)) ∈ tblG := tm_0 (tm_t (tm_2 (List.mem_of_getElem? (i := 220) rfl))) rfl
theorem tw_461 : (Jvm.Cond.code ({ cls := "SettingsInLayers", name := "slotOf", desc := "(II)I" } : Jvm.MethodName) prog_1_method_43_code (2 : Nat) (Option.some Jvm.ClassFile.FieldType.int)) ∈ tblG := tm_0 (tm_t (tm_2 (List.mem_of_getElem? (i := 221) rfl))) rfl
theorem tw_462 : (Jvm.Cond.methodLink "SettingsInLayers$Statement" (87 : Nat) ({ cls := "SettingsInLayers$Scene", name := "put", desc := "(IIII)V" } : Jvm.MethodName)) ∈ tblG := tm_0 (tm_t (tm_2 (List.mem_of_getElem? (i := 222) rfl))) rfl
theorem tw_463 : (Jvm.Cond.methodLink "SettingsInLayers$Statement" (91 : Nat) ({ cls := "SettingsInLayers$Scene", name := "addItem", desc := "(III)I" } : Jvm.MethodName)) ∈ tblG := tm_0 (tm_t (tm_2 (List.mem_of_getElem? (i := 223) rfl))) rfl
theorem tw_464 : (Jvm.Cond.instanceMethod ({ cls := "SettingsInLayers$Scene", name := "addItem", desc := "(III)I" } : Jvm.MethodName)) ∈ tblG := tm_0 (tm_t (tm_2 (List.mem_of_getElem? (i := 224) rfl))) rfl
theorem tw_465 : (Jvm.Cond.selects "SettingsInLayers$Scene" ({ cls := "SettingsInLayers$Scene", name := "addItem", desc := "(III)I" } : Jvm.MethodName) ({ cls := "SettingsInLayers$Scene", name := "addItem", desc := "(III)I" } : Jvm.MethodName)) ∈ tblG := tm_0 (tm_t (tm_2 (List.mem_of_getElem? (i := 225) rfl))) rfl
theorem tw_466 : (Jvm.Cond.code ({ cls := "SettingsInLayers$Scene", name := "addItem", desc := "(III)I" } : Jvm.MethodName) prog_6_method_13_code (5 : Nat) (Option.some Jvm.ClassFile.FieldType.int)) ∈ tblG := tm_0 (tm_t (tm_2 (List.mem_of_getElem? (i := 226) rfl))) rfl
theorem tw_467 : (Jvm.Cond.methodLink "SettingsInLayers$Statement" (48 : Nat) ({ cls := "SettingsInLayers$Statement", name := "applyDrop", desc := "(LSettingsInLayers$Scene;)Z" } : Jvm.MethodName)) ∈ tblG := tm_0 (tm_t (tm_2 (List.mem_of_getElem? (i := 227) rfl))) rfl
theorem tw_469 : (Jvm.Cond.instanceMethod ({ cls := "SettingsInLayers$Statement", name := "applyDrop", desc := "(LSettingsInLayers$Scene;)Z" } : Jvm.MethodName)) ∈ tblG := tm_0 (tm_t (tm_2 (List.mem_of_getElem? (i := 229) rfl))) rfl
theorem tw_470 : (Jvm.Cond.code ({ cls := "SettingsInLayers$Statement", name := "applyDrop", desc := "(LSettingsInLayers$Scene;)Z" } : Jvm.MethodName) prog_7_method_8_code (2 : Nat) (Option.some Jvm.ClassFile.FieldType.boolean)) ∈ tblG := tm_0 (tm_t (tm_2 (List.mem_of_getElem? (i := 230) rfl))) rfl
theorem tw_471 : (Jvm.Cond.methodLink "SettingsInLayers$Statement" (98 : Nat) ({ cls := "SettingsInLayers$Scene", name := "erase", desc := "(I)V" } : Jvm.MethodName)) ∈ tblG := tm_0 (tm_t (tm_2 (List.mem_of_getElem? (i := 231) rfl))) rfl
theorem tw_472 : (Jvm.Cond.methodLink "SettingsInLayers$Statement" (51 : Nat) ({ cls := "SettingsInLayers$Statement", name := "applyManner", desc := "(LSettingsInLayers$Scene;)Z" } : Jvm.MethodName)) ∈ tblG := tm_0 (tm_t (tm_2 (List.mem_of_getElem? (i := 232) rfl))) rfl
theorem tw_474 : (Jvm.Cond.instanceMethod ({ cls := "SettingsInLayers$Statement", name := "applyManner", desc := "(LSettingsInLayers$Scene;)Z" } : Jvm.MethodName)) ∈ tblG := tm_0 (tm_t (tm_2 (List.mem_of_getElem? (i := 234) rfl))) rfl
theorem tw_475 : (Jvm.Cond.code ({ cls := "SettingsInLayers$Statement", name := "applyManner", desc := "(LSettingsInLayers$Scene;)Z" } : Jvm.MethodName) prog_7_method_9_code (2 : Nat) (Option.some Jvm.ClassFile.FieldType.boolean)) ∈ tblG := tm_0 (tm_t (tm_2 (List.mem_of_getElem? (i := 235) rfl))) rfl
theorem tw_476 : (Jvm.Cond.methodLink "SettingsInLayersLaw" (23 : Nat) ({ cls := "SettingsInLayers", name := "turns", desc := "(I)I" } : Jvm.MethodName)) ∈ tblG := tm_0 (tm_t (tm_2 (List.mem_of_getElem? (i := 236) rfl))) rfl
theorem tw_477 : (Jvm.Cond.instanceMethod ({ cls := "SettingsInLayers", name := "turns", desc := "(I)I" } : Jvm.MethodName)) ∈ tblG := tm_0 (tm_t (tm_2 (List.mem_of_getElem? (i := 237) rfl))) rfl
theorem tw_478 : (Jvm.Cond.selects "SettingsInLayers" ({ cls := "SettingsInLayers", name := "turns", desc := "(I)I" } : Jvm.MethodName) ({ cls := "SettingsInLayers", name := "turns", desc := "(I)I" } : Jvm.MethodName)) ∈ tblG := tm_0 (tm_t (tm_2 (List.mem_of_getElem? (i := 238) rfl))) rfl
theorem tw_479 : (Jvm.Cond.code ({ cls := "SettingsInLayers", name := "turns", desc := "(I)I" } : Jvm.MethodName) prog_1_method_4_code (2 : Nat) (Option.some Jvm.ClassFile.FieldType.int)) ∈ tblG := tm_0 (tm_t (tm_2 (List.mem_of_getElem? (i := 239) rfl))) rfl
theorem tw_480 : (Jvm.Cond.methodLink "SettingsInLayers" (83 : Nat) ({ cls := "SettingsInLayers", name := "noLayer", desc := "(I)Z" } : Jvm.MethodName)) ∈ tblG := tm_0 (tm_t (tm_3 (List.mem_of_getElem? (i := 0) rfl))) rfl
theorem tw_481 : (Jvm.Cond.methodLink "SettingsInLayers" (87 : Nat) ({ cls := "SettingsInLayers$Scene", name := "toggle", desc := "(I)V" } : Jvm.MethodName)) ∈ tblG := tm_0 (tm_t (tm_3 (List.mem_of_getElem? (i := 1) rfl))) rfl
theorem tw_482 : (Jvm.Cond.methodLink "SettingsInLayers" (91 : Nat) ({ cls := "SettingsInLayers$Scene", name := "isOn", desc := "(I)Z" } : Jvm.MethodName)) ∈ tblG := tm_0 (tm_t (tm_3 (List.mem_of_getElem? (i := 2) rfl))) rfl
theorem tw_483 : (Jvm.Cond.instanceMethod ({ cls := "SettingsInLayers$Scene", name := "isOn", desc := "(I)Z" } : Jvm.MethodName)) ∈ tblG := tm_0 (tm_t (tm_3 (List.mem_of_getElem? (i := 3) rfl))) rfl
theorem tw_484 : (Jvm.Cond.selects "SettingsInLayers$Scene" ({ cls := "SettingsInLayers$Scene", name := "isOn", desc := "(I)Z" } : Jvm.MethodName) ({ cls := "SettingsInLayers$Scene", name := "isOn", desc := "(I)Z" } : Jvm.MethodName)) ∈ tblG := tm_0 (tm_t (tm_3 (List.mem_of_getElem? (i := 4) rfl))) rfl
theorem tw_485 : (Jvm.Cond.code ({ cls := "SettingsInLayers$Scene", name := "isOn", desc := "(I)Z" } : Jvm.MethodName) prog_6_method_3_code (2 : Nat) (Option.some Jvm.ClassFile.FieldType.boolean)) ∈ tblG := tm_0 (tm_t (tm_3 (List.mem_of_getElem? (i := 5) rfl))) rfl
theorem tw_486 : (Jvm.Cond.methodLink "SettingsInLayersLaw" (27 : Nat) ({ cls := "SettingsInLayers", name := "kind", desc := "(III)I" } : Jvm.MethodName)) ∈ tblG := tm_0 (tm_t (tm_3 (List.mem_of_getElem? (i := 6) rfl))) rfl
theorem tw_487 : (Jvm.Cond.instanceMethod ({ cls := "SettingsInLayers", name := "kind", desc := "(III)I" } : Jvm.MethodName)) ∈ tblG := tm_0 (tm_t (tm_3 (List.mem_of_getElem? (i := 7) rfl))) rfl
theorem tw_488 : (Jvm.Cond.selects "SettingsInLayers" ({ cls := "SettingsInLayers", name := "kind", desc := "(III)I" } : Jvm.MethodName) ({ cls := "SettingsInLayers", name := "kind", desc := "(III)I" } : Jvm.MethodName)) ∈ tblG := tm_0 (tm_t (tm_3 (List.mem_of_getElem? (i := 8) rfl))) rfl
theorem tw_489 : (Jvm.Cond.code ({ cls := "SettingsInLayers", name := "kind", desc := "(III)I" } : Jvm.MethodName) prog_1_method_5_code (6 : Nat) (Option.some Jvm.ClassFile.FieldType.int)) ∈ tblG := tm_0 (tm_t (tm_3 (List.mem_of_getElem? (i := 9) rfl))) rfl
theorem tw_490 : (Jvm.Cond.methodLink "SettingsInLayers" (94 : Nat) ({ cls := "SettingsInLayers", name := "outside", desc := "(II)I" } : Jvm.MethodName)) ∈ tblG := tm_0 (tm_t (tm_3 (List.mem_of_getElem? (i := 10) rfl))) rfl
theorem tw_491 : (Jvm.Cond.static ({ cls := "SettingsInLayers", name := "outside", desc := "(II)I" } : Jvm.MethodName)) ∈ tblG := tm_0 (tm_t (tm_3 (List.mem_of_getElem? (i := 11) rfl))) rfl
theorem tw_492 : (Jvm.Cond.code ({ cls := "SettingsInLayers", name := "outside", desc := "(II)I" } : Jvm.MethodName) prog_1_method_40_code (2 : Nat) (Option.some Jvm.ClassFile.FieldType.int)) ∈ tblG := tm_0 (tm_t (tm_3 (List.mem_of_getElem? (i := 12) rfl))) rfl
theorem tw_493 : (Jvm.Cond.methodLink "SettingsInLayers" (104 : Nat) ({ cls := "SettingsInLayers$Scene", name := "putKind", desc := "(III)V" } : Jvm.MethodName)) ∈ tblG := tm_0 (tm_t (tm_3 (List.mem_of_getElem? (i := 13) rfl))) rfl
theorem tw_494 : (Jvm.Cond.methodLink "SettingsInLayersLaw" (32 : Nat) ({ cls := "SettingsInLayers", name := "manner", desc := "(II)I" } : Jvm.MethodName)) ∈ tblG := tm_0 (tm_t (tm_3 (List.mem_of_getElem? (i := 14) rfl))) rfl
theorem tw_495 : (Jvm.Cond.instanceMethod ({ cls := "SettingsInLayers", name := "manner", desc := "(II)I" } : Jvm.MethodName)) ∈ tblG := tm_0 (tm_t (tm_3 (List.mem_of_getElem? (i := 15) rfl))) rfl
theorem tw_496 : (Jvm.Cond.selects "SettingsInLayers" ({ cls := "SettingsInLayers", name := "manner", desc := "(II)I" } : Jvm.MethodName) ({ cls := "SettingsInLayers", name := "manner", desc := "(II)I" } : Jvm.MethodName)) ∈ tblG := tm_0 (tm_t (tm_3 (List.mem_of_getElem? (i := 16) rfl))) rfl
theorem tw_497 : (Jvm.Cond.code ({ cls := "SettingsInLayers", name := "manner", desc := "(II)I" } : Jvm.MethodName) prog_1_method_6_code (4 : Nat) (Option.some Jvm.ClassFile.FieldType.int)) ∈ tblG := tm_0 (tm_t (tm_3 (List.mem_of_getElem? (i := 17) rfl))) rfl
theorem tw_498 : (Jvm.Cond.methodLink "SettingsInLayers" (108 : Nat) ({ cls := "SettingsInLayers", name := "noKey", desc := "(I)Z" } : Jvm.MethodName)) ∈ tblG := tm_0 (tm_t (tm_3 (List.mem_of_getElem? (i := 18) rfl))) rfl
theorem tw_499 : (Jvm.Cond.methodLink "SettingsInLayersLaw" (37 : Nat) ({ cls := "SettingsInLayers", name := "sets", desc := "(III)I" } : Jvm.MethodName)) ∈ tblG := tm_0 (tm_t (tm_3 (List.mem_of_getElem? (i := 19) rfl))) rfl
theorem tw_500 : (Jvm.Cond.instanceMethod ({ cls := "SettingsInLayers", name := "sets", desc := "(III)I" } : Jvm.MethodName)) ∈ tblG := tm_0 (tm_t (tm_3 (List.mem_of_getElem? (i := 20) rfl))) rfl
theorem tw_501 : (Jvm.Cond.selects "SettingsInLayers" ({ cls := "SettingsInLayers", name := "sets", desc := "(III)I" } : Jvm.MethodName) ({ cls := "SettingsInLayers", name := "sets", desc := "(III)I" } : Jvm.MethodName)) ∈ tblG := tm_0 (tm_t (tm_3 (List.mem_of_getElem? (i := 21) rfl))) rfl
theorem tw_502 : (Jvm.Cond.code ({ cls := "SettingsInLayers", name := "sets", desc := "(III)I" } : Jvm.MethodName) prog_1_method_7_code (5 : Nat) (Option.some Jvm.ClassFile.FieldType.int)) ∈ tblG := tm_0 (tm_t (tm_3 (List.mem_of_getElem? (i := 22) rfl))) rfl
theorem tw_503 : (Jvm.Cond.methodLink "SettingsInLayers" (114 : Nat) ({ cls := "SettingsInLayers", name := "replace", desc := "(IIIII)I" } : Jvm.MethodName)) ∈ tblG := tm_0 (tm_t (tm_3 (List.mem_of_getElem? (i := 23) rfl))) rfl
theorem tw_505 : (Jvm.Cond.instanceMethod ({ cls := "SettingsInLayers", name := "replace", desc := "(IIIII)I" } : Jvm.MethodName)) ∈ tblG := tm_0 (tm_t (tm_3 (List.mem_of_getElem? (i := 25) rfl))) rfl
theorem tw_506 : (Jvm.Cond.code ({ cls := "SettingsInLayers", name := "replace", desc := "(IIIII)I" } : Jvm.MethodName) prog_1_method_44_code (8 : Nat) (Option.some Jvm.ClassFile.FieldType.int)) ∈ tblG := tm_0 (tm_t (tm_3 (List.mem_of_getElem? (i := 26) rfl))) rfl
theorem tw_507 : (Jvm.Cond.methodLink "SettingsInLayers" (118 : Nat) ({ cls := "SettingsInLayers", name := "slotOf", desc := "(II)I" } : Jvm.MethodName)) ∈ tblG := tm_0 (tm_t (tm_3 (List.mem_of_getElem? (i := 27) rfl))) rfl
theorem tw_508 : (Jvm.Cond.methodLink "SettingsInLayers" (131 : Nat) ({ cls := "SettingsInLayers$Scene", name := "put", desc := "(IIII)V" } : Jvm.MethodName)) ∈ tblG := tm_0 (tm_t (tm_3 (List.mem_of_getElem? (i := 28) rfl))) rfl
theorem tw_509 : (Jvm.Cond.methodLink "SettingsInLayersLaw" (41 : Nat) ({ cls := "SettingsInLayers", name := "adds", desc := "(IIII)I" } : Jvm.MethodName)) ∈ tblG := tm_0 (tm_t (tm_3 (List.mem_of_getElem? (i := 29) rfl))) rfl
theorem tw_510 : (Jvm.Cond.instanceMethod ({ cls := "SettingsInLayers", name := "adds", desc := "(IIII)I" } : Jvm.MethodName)) ∈ tblG := tm_0 (tm_t (tm_3 (List.mem_of_getElem? (i := 30) rfl))) rfl
theorem tw_511 : (Jvm.Cond.selects "SettingsInLayers" ({ cls := "SettingsInLayers", name := "adds", desc := "(IIII)I" } : Jvm.MethodName) ({ cls := "SettingsInLayers", name := "adds", desc := "(IIII)I" } : Jvm.MethodName)) ∈ tblG := tm_0 (tm_t (tm_3 (List.mem_of_getElem? (i := 31) rfl))) rfl
theorem tw_512 : (Jvm.Cond.code ({ cls := "SettingsInLayers", name := "adds", desc := "(IIII)I" } : Jvm.MethodName) prog_1_method_8_code (8 : Nat) (Option.some Jvm.ClassFile.FieldType.int)) ∈ tblG := tm_0 (tm_t (tm_3 (List.mem_of_getElem? (i := 32) rfl))) rfl
theorem tw_513 : (Jvm.Cond.methodLink "SettingsInLayers" (124 : Nat) ({ cls := "SettingsInLayers$Scene", name := "hasItem", desc := "(II)Z" } : Jvm.MethodName)) ∈ tblG := tm_0 (tm_t (tm_3 (List.mem_of_getElem? (i := 33) rfl))) rfl
theorem tw_514 : (Jvm.Cond.instanceMethod ({ cls := "SettingsInLayers$Scene", name := "hasItem", desc := "(II)Z" } : Jvm.MethodName)) ∈ tblG := tm_0 (tm_t (tm_3 (List.mem_of_getElem? (i := 34) rfl))) rfl
theorem tw_515 : (Jvm.Cond.selects "SettingsInLayers$Scene" ({ cls := "SettingsInLayers$Scene", name := "hasItem", desc := "(II)Z" } : Jvm.MethodName) ({ cls := "SettingsInLayers$Scene", name := "hasItem", desc := "(II)Z" } : Jvm.MethodName)) ∈ tblG := tm_0 (tm_t (tm_3 (List.mem_of_getElem? (i := 35) rfl))) rfl
theorem tw_516 : (Jvm.Cond.code ({ cls := "SettingsInLayers$Scene", name := "hasItem", desc := "(II)Z" } : Jvm.MethodName) prog_6_method_12_code (4 : Nat) (Option.some Jvm.ClassFile.FieldType.boolean)) ∈ tblG := tm_0 (tm_t (tm_3 (List.mem_of_getElem? (i := 36) rfl))) rfl
theorem tw_517 : (Jvm.Cond.methodLink "SettingsInLayers" (135 : Nat) ({ cls := "SettingsInLayers$Scene", name := "addItem", desc := "(III)I" } : Jvm.MethodName)) ∈ tblG := tm_0 (tm_t (tm_3 (List.mem_of_getElem? (i := 37) rfl))) rfl
theorem tw_518 : (Jvm.Cond.methodLink "SettingsInLayersLaw" (46 : Nat) ({ cls := "SettingsInLayers", name := "refers", desc := "(IIII)I" } : Jvm.MethodName)) ∈ tblG := tm_0 (tm_t (tm_3 (List.mem_of_getElem? (i := 38) rfl))) rfl
theorem tw_519 : (Jvm.Cond.instanceMethod ({ cls := "SettingsInLayers", name := "refers", desc := "(IIII)I" } : Jvm.MethodName)) ∈ tblG := tm_0 (tm_t (tm_3 (List.mem_of_getElem? (i := 39) rfl))) rfl
theorem tw_520 : (Jvm.Cond.selects "SettingsInLayers" ({ cls := "SettingsInLayers", name := "refers", desc := "(IIII)I" } : Jvm.MethodName) ({ cls := "SettingsInLayers", name := "refers", desc := "(IIII)I" } : Jvm.MethodName)) ∈ tblG := tm_0 (tm_t (tm_3 (List.mem_of_getElem? (i := 40) rfl))) rfl
theorem tw_521 : (Jvm.Cond.code ({ cls := "SettingsInLayers", name := "refers", desc := "(IIII)I" } : Jvm.MethodName) prog_1_method_9_code (5 : Nat) (Option.some Jvm.ClassFile.FieldType.int)) ∈ tblG := tm_0 (tm_t (tm_3 (List.mem_of_getElem? (i := 41) rfl))) rfl
theorem tw_522 : (Jvm.Cond.methodLink "SettingsInLayersLaw" (50 : Nat) ({ cls := "SettingsInLayers", name := "gap", desc := "(II)I" } : Jvm.MethodName)) ∈ tblG := tm_0 (tm_t (tm_3 (List.mem_of_getElem? (i := 42) rfl))) rfl
theorem tw_523 : (Jvm.Cond.instanceMethod ({ cls := "SettingsInLayers", name := "gap", desc := "(II)I" } : Jvm.MethodName)) ∈ tblG := tm_0 (tm_t (tm_3 (List.mem_of_getElem? (i := 43) rfl))) rfl
theorem tw_524 : (Jvm.Cond.selects "SettingsInLayers" ({ cls := "SettingsInLayers", name := "gap", desc := "(II)I" } : Jvm.MethodName) ({ cls := "SettingsInLayers", name := "gap", desc := "(II)I" } : Jvm.MethodName)) ∈ tblG := tm_0 (tm_t (tm_3 (List.mem_of_getElem? (i := 44) rfl))) rfl
theorem tw_525 : (Jvm.Cond.code ({ cls := "SettingsInLayers", name := "gap", desc := "(II)I" } : Jvm.MethodName) prog_1_method_10_code (3 : Nat) (Option.some Jvm.ClassFile.FieldType.int)) ∈ tblG := tm_0 (tm_t (tm_3 (List.mem_of_getElem? (i := 45) rfl))) rfl
theorem tw_526 : (Jvm.Cond.methodLink "SettingsInLayersLaw" (54 : Nat) ({ cls := "SettingsInLayers", name := "drops", desc := "(II)I" } : Jvm.MethodName)) ∈ tblG := tm_0 (tm_t (tm_3 (List.mem_of_getElem? (i := 46) rfl))) rfl
theorem tw_527 : (Jvm.Cond.instanceMethod ({ cls := "SettingsInLayers", name := "drops", desc := "(II)I" } : Jvm.MethodName)) ∈ tblG := tm_0 (tm_t (tm_3 (List.mem_of_getElem? (i := 47) rfl))) rfl
theorem tw_528 : (Jvm.Cond.selects "SettingsInLayers" ({ cls := "SettingsInLayers", name := "drops", desc := "(II)I" } : Jvm.MethodName) ({ cls := "SettingsInLayers", name := "drops", desc := "(II)I" } : Jvm.MethodName)) ∈ tblG := tm_0 (tm_t (tm_3 (List.mem_of_getElem? (i := 48) rfl))) rfl
theorem tw_529 : (Jvm.Cond.code ({ cls := "SettingsInLayers", name := "drops", desc := "(II)I" } : Jvm.MethodName) prog_1_method_11_code (3 : Nat) (Option.some Jvm.ClassFile.FieldType.int)) ∈ tblG := tm_0 (tm_t (tm_3 (List.mem_of_getElem? (i := 49) rfl))) rfl
theorem tw_530 : (Jvm.Cond.methodLink "SettingsInLayers" (139 : Nat) ({ cls := "SettingsInLayers", name := "noEntry", desc := "(II)Z" } : Jvm.MethodName)) ∈ tblG := tm_0 (tm_t (tm_3 (List.mem_of_getElem? (i := 50) rfl))) rfl
theorem tw_532 : (Jvm.Cond.instanceMethod ({ cls := "SettingsInLayers", name := "noEntry", desc := "(II)Z" } : Jvm.MethodName)) ∈ tblG := tm_0 (tm_t (tm_3 (List.mem_of_getElem? (i := 52) rfl))) rfl
theorem tw_533 : (Jvm.Cond.code ({ cls := "SettingsInLayers", name := "noEntry", desc := "(II)Z" } : Jvm.MethodName) prog_1_method_39_code (3 : Nat) (Option.some Jvm.ClassFile.FieldType.boolean)) ∈ tblG := tm_0 (tm_t (tm_3 (List.mem_of_getElem? (i := 53) rfl))) rfl
theorem tw_534 : (Jvm.Cond.methodLink "SettingsInLayers" (142 : Nat) ({ cls := "SettingsInLayers$Scene", name := "erase", desc := "(I)V" } : Jvm.MethodName)) ∈ tblG := tm_0 (tm_t (tm_3 (List.mem_of_getElem? (i := 54) rfl))) rfl
theorem tw_535 : (Jvm.Cond.methodLink "SettingsInLayers" (145 : Nat) ({ cls := "SettingsInLayers$Scene", name := "keyBits", desc := "(I)I" } : Jvm.MethodName)) ∈ tblG := tm_0 (tm_t (tm_3 (List.mem_of_getElem? (i := 55) rfl))) rfl
theorem tw_536 : (Jvm.Cond.instanceMethod ({ cls := "SettingsInLayers$Scene", name := "keyBits", desc := "(I)I" } : Jvm.MethodName)) ∈ tblG := tm_0 (tm_t (tm_3 (List.mem_of_getElem? (i := 56) rfl))) rfl
theorem tw_537 : (Jvm.Cond.selects "SettingsInLayers$Scene" ({ cls := "SettingsInLayers$Scene", name := "keyBits", desc := "(I)I" } : Jvm.MethodName) ({ cls := "SettingsInLayers$Scene", name := "keyBits", desc := "(I)I" } : Jvm.MethodName)) ∈ tblG := tm_0 (tm_t (tm_3 (List.mem_of_getElem? (i := 57) rfl))) rfl
theorem tw_538 : (Jvm.Cond.code ({ cls := "SettingsInLayers$Scene", name := "keyBits", desc := "(I)I" } : Jvm.MethodName) prog_6_method_14_code (4 : Nat) (Option.some Jvm.ClassFile.FieldType.int)) ∈ tblG := tm_0 (tm_t (tm_3 (List.mem_of_getElem? (i := 58) rfl))) rfl
theorem tw_540 : (Jvm.Cond.methodLink "SettingsInLayers" (148 : Nat) ({ cls := "java/lang/Integer", name := "bitCount", desc := "(I)I" } : Jvm.MethodName)) ∈ tblG := tm_0 (tm_t (tm_3 (List.mem_of_getElem? (i := 60) rfl))) rfl
theorem tw_541 : (Jvm.Cond.static ({ cls := "java/lang/Integer", name := "bitCount", desc := "(I)I" } : Jvm.MethodName)) ∈ tblG := tm_0 (tm_t (tm_3 (List.mem_of_getElem? (i := 61) rfl))) rfl
theorem tw_542 : (Jvm.Cond.code ({ cls := "java/lang/Integer", name := "bitCount", desc := "(I)I" } : Jvm.MethodName) prog_11_method_49_code (1 : Nat) (Option.some Jvm.ClassFile.FieldType.int)) ∈ tblG := tm_0 (tm_t (tm_3 (List.mem_of_getElem? (i := 62) rfl))) rfl
theorem tw_543 : (Jvm.Cond.constant "java/lang/Integer" (265 : Nat) (1431655765 : Int32)) ∈ tblG := tm_0 (tm_t (tm_3 (List.mem_of_getElem? (i := 63) rfl))) rfl
theorem tw_544 : (Jvm.Cond.constant "java/lang/Integer" (266 : Nat) (858993459 : Int32)) ∈ tblG := tm_0 (tm_t (tm_3 (List.mem_of_getElem? (i := 64) rfl))) rfl
theorem tw_545 : (Jvm.Cond.constant "java/lang/Integer" (267 : Nat) (252645135 : Int32)) ∈ tblG := tm_0 (tm_t (tm_3 (List.mem_of_getElem? (i := 65) rfl))) rfl
theorem tw_546 : (Jvm.Cond.methodLink "SettingsInLayersLaw" (58 : Nat) ({ cls := "SettingsInLayers", name := "layer", desc := "(II)I" } : Jvm.MethodName)) ∈ tblG := tm_0 (tm_t (tm_3 (List.mem_of_getElem? (i := 66) rfl))) rfl
theorem tw_547 : (Jvm.Cond.instanceMethod ({ cls := "SettingsInLayers", name := "layer", desc := "(II)I" } : Jvm.MethodName)) ∈ tblG := tm_0 (tm_t (tm_3 (List.mem_of_getElem? (i := 67) rfl))) rfl
theorem tw_548 : (Jvm.Cond.selects "SettingsInLayers" ({ cls := "SettingsInLayers", name := "layer", desc := "(II)I" } : Jvm.MethodName) ({ cls := "SettingsInLayers", name := "layer", desc := "(II)I" } : Jvm.MethodName)) ∈ tblG := tm_0 (tm_t (tm_3 (List.mem_of_getElem? (i := 68) rfl))) rfl
theorem tw_549 : (Jvm.Cond.code ({ cls := "SettingsInLayers", name := "layer", desc := "(II)I" } : Jvm.MethodName) prog_1_method_12_code (3 : Nat) (Option.some Jvm.ClassFile.FieldType.int)) ∈ tblG := tm_0 (tm_t (tm_3 (List.mem_of_getElem? (i := 69) rfl))) rfl
theorem tw_550 : (Jvm.Cond.methodLink "SettingsInLayers" (153 : Nat) ({ cls := "SettingsInLayers$Scene", name := "rank", desc := "(I)I" } : Jvm.MethodName)) ∈ tblG := tm_0 (tm_t (tm_3 (List.mem_of_getElem? (i := 70) rfl))) rfl
theorem tw_551 : (Jvm.Cond.methodLink "SettingsInLayers" (156 : Nat) ({ cls := "SettingsInLayers$Scene", name := "howManyBehind", desc := "(I)I" } : Jvm.MethodName)) ∈ tblG := tm_0 (tm_t (tm_3 (List.mem_of_getElem? (i := 71) rfl))) rfl
theorem tw_552 : (Jvm.Cond.instanceMethod ({ cls := "SettingsInLayers$Scene", name := "howManyBehind", desc := "(I)I" } : Jvm.MethodName)) ∈ tblG := tm_0 (tm_t (tm_3 (List.mem_of_getElem? (i := 72) rfl))) rfl
theorem tw_553 : (Jvm.Cond.selects "SettingsInLayers$Scene" ({ cls := "SettingsInLayers$Scene", name := "howManyBehind", desc := "(I)I" } : Jvm.MethodName) ({ cls := "SettingsInLayers$Scene", name := "howManyBehind", desc := "(I)I" } : Jvm.MethodName)) ∈ tblG := tm_0 (tm_t (tm_3 (List.mem_of_getElem? (i := 73) rfl))) rfl
theorem tw_554 : (Jvm.Cond.code ({ cls := "SettingsInLayers$Scene", name := "howManyBehind", desc := "(I)I" } : Jvm.MethodName) prog_6_method_8_code (4 : Nat) (Option.some Jvm.ClassFile.FieldType.int)) ∈ tblG := tm_0 (tm_t (tm_3 (List.mem_of_getElem? (i := 74) rfl))) rfl
theorem tw_555 : (Jvm.Cond.methodLink "SettingsInLayersLaw" (62 : Nat) ({ cls := "SettingsInLayers", name := "entry", desc := "(III)I" } : Jvm.MethodName)) ∈ tblG := tm_0 (tm_t (tm_3 (List.mem_of_getElem? (i := 75) rfl))) rfl
theorem tw_556 : (Jvm.Cond.instanceMethod ({ cls := "SettingsInLayers", name := "entry", desc := "(III)I" } : Jvm.MethodName)) ∈ tblG := tm_0 (tm_t (tm_3 (List.mem_of_getElem? (i := 76) rfl))) rfl
theorem tw_557 : (Jvm.Cond.selects "SettingsInLayers" ({ cls := "SettingsInLayers", name := "entry", desc := "(III)I" } : Jvm.MethodName) ({ cls := "SettingsInLayers", name := "entry", desc := "(III)I" } : Jvm.MethodName)) ∈ tblG := tm_0 (tm_t (tm_3 (List.mem_of_getElem? (i := 77) rfl))) rfl
theorem tw_558 : (Jvm.Cond.code ({ cls := "SettingsInLayers", name := "entry", desc := "(III)I" } : Jvm.MethodName) prog_1_method_13_code (5 : Nat) (Option.some Jvm.ClassFile.FieldType.int)) ∈ tblG := tm_0 (tm_t (tm_3 (List.mem_of_getElem? (i := 78) rfl))) rfl
theorem tw_559 : (Jvm.Cond.methodLink "SettingsInLayersLaw" (66 : Nat) ({ cls := "SettingsInLayers", name := "value", desc := "(II)I" } : Jvm.MethodName)) ∈ tblG := tm_0 (tm_t (tm_3 (List.mem_of_getElem? (i := 79) rfl))) rfl
theorem tw_560 : (Jvm.Cond.instanceMethod ({ cls := "SettingsInLayers", name := "value", desc := "(II)I" } : Jvm.MethodName)) ∈ tblG := tm_0 (tm_t (tm_3 (List.mem_of_getElem? (i := 80) rfl))) rfl
theorem tw_561 : (Jvm.Cond.selects "SettingsInLayers" ({ cls := "SettingsInLayers", name := "value", desc := "(II)I" } : Jvm.MethodName) ({ cls := "SettingsInLayers", name := "value", desc := "(II)I" } : Jvm.MethodName)) ∈ tblG := tm_0 (tm_t (tm_3 (List.mem_of_getElem? (i := 81) rfl))) rfl
theorem tw_562 : (Jvm.Cond.code ({ cls := "SettingsInLayers", name := "value", desc := "(II)I" } : Jvm.MethodName) prog_1_method_14_code (4 : Nat) (Option.some Jvm.ClassFile.FieldType.int)) ∈ tblG := tm_0 (tm_t (tm_3 (List.mem_of_getElem? (i := 82) rfl))) rfl
theorem tw_563 : (Jvm.Cond.methodLink "SettingsInLayers" (162 : Nat) ({ cls := "SettingsInLayers$Resolver", name := "ask", desc := "(LSettingsInLayers$Scene;I)LSettingsInLayers$Outcome;" } : Jvm.MethodName)) ∈ tblG := tm_0 (tm_t (tm_3 (List.mem_of_getElem? (i := 83) rfl))) rfl
theorem tw_564 : (Jvm.Cond.instanceMethod ({ cls := "SettingsInLayers$Resolver", name := "ask", desc := "(LSettingsInLayers$Scene;I)LSettingsInLayers$Outcome;" } : Jvm.MethodName)) ∈ tblG := tm_0 (tm_t (tm_3 (List.mem_of_getElem? (i := 84) rfl))) rfl
theorem tw_565 : (Jvm.Cond.selects "SettingsInLayers$Resolver" ({ cls := "SettingsInLayers$Resolver", name := "ask", desc := "(LSettingsInLayers$Scene;I)LSettingsInLayers$Outcome;" } : Jvm.MethodName) ({ cls := "SettingsInLayers$Resolver", name := "ask", desc := "(LSettingsInLayers$Scene;I)LSettingsInLayers$Outcome;" } : Jvm.MethodName)) ∈ tblG := tm_0 (tm_t (tm_3 (List.mem_of_getElem? (i := 85) rfl))) rfl
theorem tw_566 : (Jvm.Cond.code ({ cls := "SettingsInLayers$Resolver", name := "ask", desc := "(LSettingsInLayers$Scene;I)LSettingsInLayers$Outcome;" } : Jvm.MethodName) prog_4_method_2_code (3 : Nat) (Option.some (Jvm.ClassFile.FieldType.object "SettingsInLayers$Outcome"))) ∈ tblG := tm_0 (tm_t (tm_3 (List.mem_of_getElem? (i := 86) rfl))) rfl
theorem tw_567 : (Jvm.Cond.methodLink "SettingsInLayers$Resolver" (36 : Nat) ({ cls := "SettingsInLayers$Resolver", name := "resolve", desc := "(II)Z" } : Jvm.MethodName)) ∈ tblG := tm_0 (tm_t (tm_3 (List.mem_of_getElem? (i := 87) rfl))) rfl
theorem tw_569 : (Jvm.Cond.instanceMethod ({ cls := "SettingsInLayers$Resolver", name := "resolve", desc := "(II)Z" } : Jvm.MethodName)) ∈ tblG := tm_0 (tm_t (tm_3 (List.mem_of_getElem? (i := 89) rfl))) rfl
theorem tw_570 : (Jvm.Cond.code ({ cls := "SettingsInLayers$Resolver", name := "resolve", desc := "(II)Z" } : Jvm.MethodName) prog_4_method_3_code (5 : Nat) (Option.some Jvm.ClassFile.FieldType.boolean)) ∈ tblG := tm_0 (tm_t (tm_3 (List.mem_of_getElem? (i := 90) rfl))) rfl
theorem tw_571 : (Jvm.Cond.methodLink "SettingsInLayers$Resolver" (43 : Nat) ({ cls := "SettingsInLayers$Outcome", name := "reset", desc := "()V" } : Jvm.MethodName)) ∈ tblG := tm_0 (tm_t (tm_3 (List.mem_of_getElem? (i := 91) rfl))) rfl
theorem tw_572 : (Jvm.Cond.instanceMethod ({ cls := "SettingsInLayers$Outcome", name := "reset", desc := "()V" } : Jvm.MethodName)) ∈ tblG := tm_0 (tm_t (tm_3 (List.mem_of_getElem? (i := 92) rfl))) rfl
theorem tw_573 : (Jvm.Cond.selects "SettingsInLayers$Outcome" ({ cls := "SettingsInLayers$Outcome", name := "reset", desc := "()V" } : Jvm.MethodName) ({ cls := "SettingsInLayers$Outcome", name := "reset", desc := "()V" } : Jvm.MethodName)) ∈ tblG := tm_0 (tm_t (tm_3 (List.mem_of_getElem? (i := 93) rfl))) rfl
theorem tw_574 : (Jvm.Cond.code ({ cls := "SettingsInLayers$Outcome", name := "reset", desc := "()V" } : Jvm.MethodName) prog_3_method_2_code (1 : Nat) (Option.none : Option Jvm.ClassFile.FieldType)) ∈ tblG := tm_0 (tm_t (tm_3 (List.mem_of_getElem? (i := 94) rfl))) rfl
theorem tw_575 : (Jvm.Cond.methodLink "SettingsInLayers$Resolver" (46 : Nat) ({ cls := "SettingsInLayers$Resolver", name := "fail", desc := "(II)Z" } : Jvm.MethodName)) ∈ tblG := tm_0 (tm_t (tm_3 (List.mem_of_getElem? (i := 95) rfl))) rfl
theorem tw_577 : (Jvm.Cond.instanceMethod ({ cls := "SettingsInLayers$Resolver", name := "fail", desc := "(II)Z" } : Jvm.MethodName)) ∈ tblG := tm_0 (tm_t (tm_3 (List.mem_of_getElem? (i := 97) rfl))) rfl
theorem tw_578 : (Jvm.Cond.code ({ cls := "SettingsInLayers$Resolver", name := "fail", desc := "(II)Z" } : Jvm.MethodName) prog_4_method_4_code (5 : Nat) (Option.some Jvm.ClassFile.FieldType.boolean)) ∈ tblG := tm_0 (tm_t (tm_3 (List.mem_of_getElem? (i := 98) rfl))) rfl
theorem tw_579 : (Jvm.Cond.methodLink "SettingsInLayers$Resolver" (49 : Nat) ({ cls := "SettingsInLayers$Resolver", name := "gatherOffers", desc := "(ILSettingsInLayers$Outcome;)V" } : Jvm.MethodName)) ∈ tblG := tm_0 (tm_t (tm_3 (List.mem_of_getElem? (i := 99) rfl))) rfl
theorem tw_581 : (Jvm.Cond.instanceMethod ({ cls := "SettingsInLayers$Resolver", name := "gatherOffers", desc := "(ILSettingsInLayers$Outcome;)V" } : Jvm.MethodName)) ∈ tblG := tm_0 (tm_t (tm_3 (List.mem_of_getElem? (i := 101) rfl))) rfl
theorem tw_582 : (Jvm.Cond.code ({ cls := "SettingsInLayers$Resolver", name := "gatherOffers", desc := "(ILSettingsInLayers$Outcome;)V" } : Jvm.MethodName) prog_4_method_5_code (6 : Nat) (Option.none : Option Jvm.ClassFile.FieldType)) ∈ tblG := tm_0 (tm_t (tm_3 (List.mem_of_getElem? (i := 102) rfl))) rfl
theorem tw_584 : (Jvm.Cond.methodLink "SettingsInLayers$Resolver" (83 : Nat) ({ cls := "SettingsInLayers$Scene", name := "isOn", desc := "(I)Z" } : Jvm.MethodName)) ∈ tblG := tm_0 (tm_t (tm_3 (List.mem_of_getElem? (i := 104) rfl))) rfl
theorem tw_585 : (Jvm.Cond.methodLink "SettingsInLayers$Resolver" (87 : Nat) ({ cls := "SettingsInLayers$Resolver", name := "counts", desc := "(III)Z" } : Jvm.MethodName)) ∈ tblG := tm_0 (tm_t (tm_3 (List.mem_of_getElem? (i := 105) rfl))) rfl
theorem tw_587 : (Jvm.Cond.instanceMethod ({ cls := "SettingsInLayers$Resolver", name := "counts", desc := "(III)Z" } : Jvm.MethodName)) ∈ tblG := tm_0 (tm_t (tm_3 (List.mem_of_getElem? (i := 107) rfl))) rfl
theorem tw_588 : (Jvm.Cond.code ({ cls := "SettingsInLayers$Resolver", name := "counts", desc := "(III)Z" } : Jvm.MethodName) prog_4_method_6_code (4 : Nat) (Option.some Jvm.ClassFile.FieldType.boolean)) ∈ tblG := tm_0 (tm_t (tm_3 (List.mem_of_getElem? (i := 108) rfl))) rfl
theorem tw_589 : (Jvm.Cond.methodLink "SettingsInLayers$Resolver" (91 : Nat) ({ cls := "SettingsInLayers$Outcome", name := "addOffer", desc := "(I)V" } : Jvm.MethodName)) ∈ tblG := tm_0 (tm_t (tm_3 (List.mem_of_getElem? (i := 109) rfl))) rfl
theorem tw_590 : (Jvm.Cond.instanceMethod ({ cls := "SettingsInLayers$Outcome", name := "addOffer", desc := "(I)V" } : Jvm.MethodName)) ∈ tblG := tm_0 (tm_t (tm_3 (List.mem_of_getElem? (i := 110) rfl))) rfl
theorem tw_591 : (Jvm.Cond.selects "SettingsInLayers$Outcome" ({ cls := "SettingsInLayers$Outcome", name := "addOffer", desc := "(I)V" } : Jvm.MethodName) ({ cls := "SettingsInLayers$Outcome", name := "addOffer", desc := "(I)V" } : Jvm.MethodName)) ∈ tblG := tm_0 (tm_t (tm_3 (List.mem_of_getElem? (i := 111) rfl))) rfl
theorem tw_592 : (Jvm.Cond.code ({ cls := "SettingsInLayers$Outcome", name := "addOffer", desc := "(I)V" } : Jvm.MethodName) prog_3_method_3_code (2 : Nat) (Option.none : Option Jvm.ClassFile.FieldType)) ∈ tblG := tm_0 (tm_t (tm_3 (List.mem_of_getElem? (i := 112) rfl))) rfl
theorem tw_593 : (Jvm.Cond.methodLink "SettingsInLayers$Resolver" (56 : Nat) ({ cls := "SettingsInLayers$Resolver", name := "merge", desc := "(II)Z" } : Jvm.MethodName)) ∈ tblG := tm_0 (tm_t (tm_3 (List.mem_of_getElem? (i := 113) rfl))) rfl
theorem tw_595 : (Jvm.Cond.instanceMethod ({ cls := "SettingsInLayers$Resolver", name := "merge", desc := "(II)Z" } : Jvm.MethodName)) ∈ tblG := tm_0 (tm_t (tm_3 (List.mem_of_getElem? (i := 115) rfl))) rfl
theorem tw_596 : (Jvm.Cond.code ({ cls := "SettingsInLayers$Resolver", name := "merge", desc := "(II)Z" } : Jvm.MethodName) prog_4_method_7_code (10 : Nat) (Option.some Jvm.ClassFile.FieldType.boolean)) ∈ tblG := tm_0 (tm_t (tm_3 (List.mem_of_getElem? (i := 116) rfl))) rfl
theorem tw_597 : (Jvm.Cond.methodLink "SettingsInLayers$Resolver" (104 : Nat) ({ cls := "SettingsInLayers$Outcome", name := "offerLayer", desc := "(I)I" } : Jvm.MethodName)) ∈ tblG := tm_0 (tm_t (tm_3 (List.mem_of_getElem? (i := 117) rfl))) rfl
theorem tw_598 : (Jvm.Cond.instanceMethod ({ cls := "SettingsInLayers$Outcome", name := "offerLayer", desc := "(I)I" } : Jvm.MethodName)) ∈ tblG := tm_0 (tm_t (tm_3 (List.mem_of_getElem? (i := 118) rfl))) rfl
theorem tw_599 : (Jvm.Cond.selects "SettingsInLayers$Outcome" ({ cls := "SettingsInLayers$Outcome", name := "offerLayer", desc := "(I)I" } : Jvm.MethodName) ({ cls := "SettingsInLayers$Outcome", name := "offerLayer", desc := "(I)I" } : Jvm.MethodName)) ∈ tblG := tm_0 (tm_t (tm_3 (List.mem_of_getElem? (i := 119) rfl))) rfl
theorem tw_600 : (Jvm.Cond.code ({ cls := "SettingsInLayers$Outcome", name := "offerLayer", desc := "(I)I" } : Jvm.MethodName) prog_3_method_4_code (2 : Nat) (Option.some Jvm.ClassFile.FieldType.int)) ∈ tblG := tm_0 (tm_t (tm_3 (List.mem_of_getElem? (i := 120) rfl))) rfl
theorem tw_601 : (Jvm.Cond.methodLink "SettingsInLayers$Resolver" (108 : Nat) ({ cls := "SettingsInLayers$Resolver", name := "make", desc := "(III)Z" } : Jvm.MethodName)) ∈ tblG := tm_0 (tm_t (tm_3 (List.mem_of_getElem? (i := 121) rfl))) rfl
theorem tw_603 : (Jvm.Cond.instanceMethod ({ cls := "SettingsInLayers$Resolver", name := "make", desc := "(III)Z" } : Jvm.MethodName)) ∈ tblG := tm_0 (tm_t (tm_3 (List.mem_of_getElem? (i := 123) rfl))) rfl
theorem tw_604 : (Jvm.Cond.code ({ cls := "SettingsInLayers$Resolver", name := "make", desc := "(III)Z" } : Jvm.MethodName) prog_4_method_9_code (8 : Nat) (Option.some Jvm.ClassFile.FieldType.boolean)) ∈ tblG := tm_0 (tm_t (tm_3 (List.mem_of_getElem? (i := 124) rfl))) rfl
theorem tw_605 : (Jvm.Cond.methodLink "SettingsInLayers$Resolver" (134 : Nat) ({ cls := "SettingsInLayers$Outcome", name := "increase", desc := "(I)I" } : Jvm.MethodName)) ∈ tblG := tm_0 (tm_t (tm_3 (List.mem_of_getElem? (i := 125) rfl))) rfl
theorem tw_606 : (Jvm.Cond.instanceMethod ({ cls := "SettingsInLayers$Outcome", name := "increase", desc := "(I)I" } : Jvm.MethodName)) ∈ tblG := tm_0 (tm_t (tm_3 (List.mem_of_getElem? (i := 126) rfl))) rfl
theorem tw_607 : (Jvm.Cond.selects "SettingsInLayers$Outcome" ({ cls := "SettingsInLayers$Outcome", name := "increase", desc := "(I)I" } : Jvm.MethodName) ({ cls := "SettingsInLayers$Outcome", name := "increase", desc := "(I)I" } : Jvm.MethodName)) ∈ tblG := tm_0 (tm_t (tm_3 (List.mem_of_getElem? (i := 127) rfl))) rfl
theorem tw_608 : (Jvm.Cond.code ({ cls := "SettingsInLayers$Outcome", name := "increase", desc := "(I)I" } : Jvm.MethodName) prog_3_method_10_code (2 : Nat) (Option.some Jvm.ClassFile.FieldType.int)) ∈ tblG := tm_0 (tm_t (tm_3 (List.mem_of_getElem? (i := 128) rfl))) rfl
theorem tw_609 : (Jvm.Cond.methodLink "SettingsInLayers$Resolver" (137 : Nat) ({ cls := "SettingsInLayers$Resolver", name := "copyEntry", desc := "(ILSettingsInLayers$Outcome;)V" } : Jvm.MethodName)) ∈ tblG := tm_0 (tm_t (tm_3 (List.mem_of_getElem? (i := 129) rfl))) rfl
theorem tw_611 : (Jvm.Cond.instanceMethod ({ cls := "SettingsInLayers$Resolver", name := "copyEntry", desc := "(ILSettingsInLayers$Outcome;)V" } : Jvm.MethodName)) ∈ tblG := tm_0 (tm_t (tm_3 (List.mem_of_getElem? (i := 131) rfl))) rfl
theorem tw_612 : (Jvm.Cond.code ({ cls := "SettingsInLayers$Resolver", name := "copyEntry", desc := "(ILSettingsInLayers$Outcome;)V" } : Jvm.MethodName) prog_4_method_10_code (4 : Nat) (Option.none : Option Jvm.ClassFile.FieldType)) ∈ tblG := tm_0 (tm_t (tm_3 (List.mem_of_getElem? (i := 132) rfl))) rfl
theorem tw_613 : (Jvm.Cond.methodLink "SettingsInLayers$Resolver" (147 : Nat) ({ cls := "java/lang/System", name := "arraycopy", desc := "(Ljava/lang/Object;ILjava/lang/Object;II)V" } : Jvm.MethodName)) ∈ tblG := tm_0 (tm_t (tm_3 (List.mem_of_getElem? (i := 133) rfl))) rfl
theorem tw_614 : (Jvm.Cond.methodLink "SettingsInLayers$Resolver" (111 : Nat) ({ cls := "SettingsInLayers$Resolver", name := "take", desc := "(III)I" } : Jvm.MethodName)) ∈ tblG := tm_0 (tm_t (tm_3 (List.mem_of_getElem? (i := 134) rfl))) rfl
theorem tw_616 : (Jvm.Cond.instanceMethod ({ cls := "SettingsInLayers$Resolver", name := "take", desc := "(III)I" } : Jvm.MethodName)) ∈ tblG := tm_0 (tm_t (tm_3 (List.mem_of_getElem? (i := 136) rfl))) rfl
theorem tw_617 : (Jvm.Cond.code ({ cls := "SettingsInLayers$Resolver", name := "take", desc := "(III)I" } : Jvm.MethodName) prog_4_method_8_code (6 : Nat) (Option.some Jvm.ClassFile.FieldType.int)) ∈ tblG := tm_0 (tm_t (tm_3 (List.mem_of_getElem? (i := 137) rfl))) rfl
theorem tw_618 : (Jvm.Cond.methodLink "SettingsInLayers$Resolver" (115 : Nat) ({ cls := "SettingsInLayers$Outcome", name := "takeToTotal", desc := "(ILSettingsInLayers$Outcome;)I" } : Jvm.MethodName)) ∈ tblG := tm_0 (tm_t (tm_3 (List.mem_of_getElem? (i := 138) rfl))) rfl
theorem tw_619 : (Jvm.Cond.instanceMethod ({ cls := "SettingsInLayers$Outcome", name := "takeToTotal", desc := "(ILSettingsInLayers$Outcome;)I" } : Jvm.MethodName)) ∈ tblG := tm_0 (tm_t (tm_3 (List.mem_of_getElem? (i := 139) rfl))) rfl
theorem tw_620 : (Jvm.Cond.selects "SettingsInLayers$Outcome" ({ cls := "SettingsInLayers$Outcome", name := "takeToTotal", desc := "(ILSettingsInLayers$Outcome;)I" } : Jvm.MethodName) ({ cls := "SettingsInLayers$Outcome", name := "takeToTotal", desc := "(ILSettingsInLayers$Outcome;)I" } : Jvm.MethodName)) ∈ tblG := tm_0 (tm_t (tm_3 (List.mem_of_getElem? (i := 140) rfl))) rfl
theorem tw_621 : (Jvm.Cond.code ({ cls := "SettingsInLayers$Outcome", name := "takeToTotal", desc := "(ILSettingsInLayers$Outcome;)I" } : Jvm.MethodName) prog_3_method_8_code (3 : Nat) (Option.some Jvm.ClassFile.FieldType.int)) ∈ tblG := tm_0 (tm_t (tm_3 (List.mem_of_getElem? (i := 141) rfl))) rfl
theorem tw_622 : (Jvm.Cond.methodLink "SettingsInLayers$Outcome" (71 : Nat) ({ cls := "SettingsInLayers$Outcome", name := "takeSource", desc := "(ILSettingsInLayers$Outcome;)V" } : Jvm.MethodName)) ∈ tblG := tm_0 (tm_t (tm_3 (List.mem_of_getElem? (i := 142) rfl))) rfl
theorem tw_624 : (Jvm.Cond.instanceMethod ({ cls := "SettingsInLayers$Outcome", name := "takeSource", desc := "(ILSettingsInLayers$Outcome;)V" } : Jvm.MethodName)) ∈ tblG := tm_0 (tm_t (tm_3 (List.mem_of_getElem? (i := 144) rfl))) rfl
theorem tw_625 : (Jvm.Cond.code ({ cls := "SettingsInLayers$Outcome", name := "takeSource", desc := "(ILSettingsInLayers$Outcome;)V" } : Jvm.MethodName) prog_3_method_9_code (3 : Nat) (Option.none : Option Jvm.ClassFile.FieldType)) ∈ tblG := tm_0 (tm_t (tm_3 (List.mem_of_getElem? (i := 145) rfl))) rfl
theorem tw_626 : (Jvm.Cond.methodLink "SettingsInLayers$Outcome" (75 : Nat) ({ cls := "SettingsInLayers$Outcome", name := "increase", desc := "(I)I" } : Jvm.MethodName)) ∈ tblG := tm_0 (tm_t (tm_3 (List.mem_of_getElem? (i := 146) rfl))) rfl
theorem tw_627 : (Jvm.Cond.methodLink "SettingsInLayers$Resolver" (119 : Nat) ({ cls := "SettingsInLayers$Outcome", name := "takeGreater", desc := "(ILSettingsInLayers$Outcome;)I" } : Jvm.MethodName)) ∈ tblG := tm_0 (tm_t (tm_3 (List.mem_of_getElem? (i := 147) rfl))) rfl
theorem tw_628 : (Jvm.Cond.instanceMethod ({ cls := "SettingsInLayers$Outcome", name := "takeGreater", desc := "(ILSettingsInLayers$Outcome;)I" } : Jvm.MethodName)) ∈ tblG := tm_0 (tm_t (tm_3 (List.mem_of_getElem? (i := 148) rfl))) rfl
theorem tw_629 : (Jvm.Cond.selects "SettingsInLayers$Outcome" ({ cls := "SettingsInLayers$Outcome", name := "takeGreater", desc := "(ILSettingsInLayers$Outcome;)I" } : Jvm.MethodName) ({ cls := "SettingsInLayers$Outcome", name := "takeGreater", desc := "(ILSettingsInLayers$Outcome;)I" } : Jvm.MethodName)) ∈ tblG := tm_0 (tm_t (tm_3 (List.mem_of_getElem? (i := 149) rfl))) rfl
theorem tw_630 : (Jvm.Cond.code ({ cls := "SettingsInLayers$Outcome", name := "takeGreater", desc := "(ILSettingsInLayers$Outcome;)I" } : Jvm.MethodName) prog_3_method_7_code (4 : Nat) (Option.some Jvm.ClassFile.FieldType.int)) ∈ tblG := tm_0 (tm_t (tm_3 (List.mem_of_getElem? (i := 150) rfl))) rfl
theorem tw_631 : (Jvm.Cond.methodLink "SettingsInLayers$Outcome" (67 : Nat) ({ cls := "SettingsInLayers$Outcome", name := "takeAlone", desc := "(ILSettingsInLayers$Outcome;)I" } : Jvm.MethodName)) ∈ tblG := tm_0 (tm_t (tm_3 (List.mem_of_getElem? (i := 151) rfl))) rfl
theorem tw_632 : (Jvm.Cond.instanceMethod ({ cls := "SettingsInLayers$Outcome", name := "takeAlone", desc := "(ILSettingsInLayers$Outcome;)I" } : Jvm.MethodName)) ∈ tblG := tm_0 (tm_t (tm_3 (List.mem_of_getElem? (i := 152) rfl))) rfl
theorem tw_633 : (Jvm.Cond.selects "SettingsInLayers$Outcome" ({ cls := "SettingsInLayers$Outcome", name := "takeAlone", desc := "(ILSettingsInLayers$Outcome;)I" } : Jvm.MethodName) ({ cls := "SettingsInLayers$Outcome", name := "takeAlone", desc := "(ILSettingsInLayers$Outcome;)I" } : Jvm.MethodName)) ∈ tblG := tm_0 (tm_t (tm_3 (List.mem_of_getElem? (i := 153) rfl))) rfl
theorem tw_634 : (Jvm.Cond.code ({ cls := "SettingsInLayers$Outcome", name := "takeAlone", desc := "(ILSettingsInLayers$Outcome;)I" } : Jvm.MethodName) prog_3_method_6_code (3 : Nat) (Option.some Jvm.ClassFile.FieldType.int)) ∈ tblG := tm_0 (tm_t (tm_3 (List.mem_of_getElem? (i := 154) rfl))) rfl
theorem tw_635 : (Jvm.Cond.methodLink "SettingsInLayers$Outcome" (55 : Nat) ({ cls := "java/lang/System", name := "arraycopy", desc := "(Ljava/lang/Object;ILjava/lang/Object;II)V" } : Jvm.MethodName)) ∈ tblG := tm_0 (tm_t (tm_3 (List.mem_of_getElem? (i := 155) rfl))) rfl
theorem tw_636 : (Jvm.Cond.methodLink "SettingsInLayers$Outcome" (61 : Nat) ({ cls := "java/util/Arrays", name := "fill", desc := "([II)V" } : Jvm.MethodName)) ∈ tblG := tm_0 (tm_t (tm_3 (List.mem_of_getElem? (i := 156) rfl))) rfl
theorem tw_637 : (Jvm.Cond.static ({ cls := "java/util/Arrays", name := "fill", desc := "([II)V" } : Jvm.MethodName)) ∈ tblG := tm_0 (tm_t (tm_3 (List.mem_of_getElem? (i := 157) rfl))) rfl
theorem tw_638 : (Jvm.Cond.code ({ cls := "java/util/Arrays", name := "fill", desc := "([II)V" } : Jvm.MethodName) prog_14_method_103_code (4 : Nat) (Option.none : Option Jvm.ClassFile.FieldType)) ∈ tblG := tm_0 (tm_t (tm_3 (List.mem_of_getElem? (i := 158) rfl))) rfl
theorem tw_639 : (Jvm.Cond.methodLink "SettingsInLayers$Resolver" (122 : Nat) ({ cls := "SettingsInLayers$Outcome", name := "takeItems", desc := "(ILSettingsInLayers$Outcome;)I" } : Jvm.MethodName)) ∈ tblG := tm_0 (tm_t (tm_3 (List.mem_of_getElem? (i := 159) rfl))) rfl
theorem tw_640 : (Jvm.Cond.instanceMethod ({ cls := "SettingsInLayers$Outcome", name := "takeItems", desc := "(ILSettingsInLayers$Outcome;)I" } : Jvm.MethodName)) ∈ tblG := tm_0 (tm_t (tm_3 (List.mem_of_getElem? (i := 160) rfl))) rfl
theorem tw_641 : (Jvm.Cond.selects "SettingsInLayers$Outcome" ({ cls := "SettingsInLayers$Outcome", name := "takeItems", desc := "(ILSettingsInLayers$Outcome;)I" } : Jvm.MethodName) ({ cls := "SettingsInLayers$Outcome", name := "takeItems", desc := "(ILSettingsInLayers$Outcome;)I" } : Jvm.MethodName)) ∈ tblG := tm_0 (tm_t (tm_3 (List.mem_of_getElem? (i := 161) rfl))) rfl
theorem tw_642 : (Jvm.Cond.code ({ cls := "SettingsInLayers$Outcome", name := "takeItems", desc := "(ILSettingsInLayers$Outcome;)I" } : Jvm.MethodName) prog_3_method_11_code (4 : Nat) (Option.some Jvm.ClassFile.FieldType.int)) ∈ tblG := tm_0 (tm_t (tm_3 (List.mem_of_getElem? (i := 162) rfl))) rfl
theorem tw_643 : (Jvm.Cond.methodLink "SettingsInLayers$Outcome" (79 : Nat) ({ cls := "SettingsInLayers$Outcome", name := "takeItem", desc := "(III)Z" } : Jvm.MethodName)) ∈ tblG := tm_0 (tm_t (tm_3 (List.mem_of_getElem? (i := 163) rfl))) rfl
theorem tw_645 : (Jvm.Cond.instanceMethod ({ cls := "SettingsInLayers$Outcome", name := "takeItem", desc := "(III)Z" } : Jvm.MethodName)) ∈ tblG := tm_0 (tm_t (tm_3 (List.mem_of_getElem? (i := 165) rfl))) rfl
theorem tw_646 : (Jvm.Cond.code ({ cls := "SettingsInLayers$Outcome", name := "takeItem", desc := "(III)Z" } : Jvm.MethodName) prog_3_method_12_code (5 : Nat) (Option.some Jvm.ClassFile.FieldType.boolean)) ∈ tblG := tm_0 (tm_t (tm_3 (List.mem_of_getElem? (i := 166) rfl))) rfl
theorem tw_647 : (Jvm.Cond.methodLink "SettingsInLayers$Resolver" (125 : Nat) ({ cls := "SettingsInLayers$Outcome", name := "takeAlone", desc := "(ILSettingsInLayers$Outcome;)I" } : Jvm.MethodName)) ∈ tblG := tm_0 (tm_t (tm_3 (List.mem_of_getElem? (i := 167) rfl))) rfl
theorem tw_648 : (Jvm.Cond.methodLink "SettingsInLayersLaw" (70 : Nat) ({ cls := "SettingsInLayers", name := "item", desc := "(III)I" } : Jvm.MethodName)) ∈ tblG := tm_0 (tm_t (tm_3 (List.mem_of_getElem? (i := 168) rfl))) rfl
theorem tw_649 : (Jvm.Cond.instanceMethod ({ cls := "SettingsInLayers", name := "item", desc := "(III)I" } : Jvm.MethodName)) ∈ tblG := tm_0 (tm_t (tm_3 (List.mem_of_getElem? (i := 169) rfl))) rfl
theorem tw_650 : (Jvm.Cond.selects "SettingsInLayers" ({ cls := "SettingsInLayers", name := "item", desc := "(III)I" } : Jvm.MethodName) ({ cls := "SettingsInLayers", name := "item", desc := "(III)I" } : Jvm.MethodName)) ∈ tblG := tm_0 (tm_t (tm_3 (List.mem_of_getElem? (i := 170) rfl))) rfl
theorem tw_651 : (Jvm.Cond.code ({ cls := "SettingsInLayers", name := "item", desc := "(III)I" } : Jvm.MethodName) prog_1_method_15_code (5 : Nat) (Option.some Jvm.ClassFile.FieldType.int)) ∈ tblG := tm_0 (tm_t (tm_3 (List.mem_of_getElem? (i := 171) rfl))) rfl
theorem tw_652 : (Jvm.Cond.methodLink "SettingsInLayersLaw" (74 : Nat) ({ cls := "SettingsInLayers", name := "fault", desc := "(III)I" } : Jvm.MethodName)) ∈ tblG := tm_0 (tm_t (tm_3 (List.mem_of_getElem? (i := 172) rfl))) rfl
theorem tw_653 : (Jvm.Cond.instanceMethod ({ cls := "SettingsInLayers", name := "fault", desc := "(III)I" } : Jvm.MethodName)) ∈ tblG := tm_0 (tm_t (tm_3 (List.mem_of_getElem? (i := 173) rfl))) rfl
theorem tw_654 : (Jvm.Cond.selects "SettingsInLayers" ({ cls := "SettingsInLayers", name := "fault", desc := "(III)I" } : Jvm.MethodName) ({ cls := "SettingsInLayers", name := "fault", desc := "(III)I" } : Jvm.MethodName)) ∈ tblG := tm_0 (tm_t (tm_3 (List.mem_of_getElem? (i := 174) rfl))) rfl
theorem tw_655 : (Jvm.Cond.code ({ cls := "SettingsInLayers", name := "fault", desc := "(III)I" } : Jvm.MethodName) prog_1_method_16_code (5 : Nat) (Option.some Jvm.ClassFile.FieldType.int)) ∈ tblG := tm_0 (tm_t (tm_3 (List.mem_of_getElem? (i := 175) rfl))) rfl
theorem tw_656 : (Jvm.Cond.methodLink "SettingsInLayersLaw" (78 : Nat) ({ cls := "SettingsInLayers", name := "sources", desc := "(II)I" } : Jvm.MethodName)) ∈ tblG := tm_0 (tm_t (tm_3 (List.mem_of_getElem? (i := 176) rfl))) rfl
theorem tw_657 : (Jvm.Cond.instanceMethod ({ cls := "SettingsInLayers", name := "sources", desc := "(II)I" } : Jvm.MethodName)) ∈ tblG := tm_0 (tm_t (tm_3 (List.mem_of_getElem? (i := 177) rfl))) rfl
theorem tw_658 : (Jvm.Cond.selects "SettingsInLayers" ({ cls := "SettingsInLayers", name := "sources", desc := "(II)I" } : Jvm.MethodName) ({ cls := "SettingsInLayers", name := "sources", desc := "(II)I" } : Jvm.MethodName)) ∈ tblG := tm_0 (tm_t (tm_3 (List.mem_of_getElem? (i := 178) rfl))) rfl
theorem tw_659 : (Jvm.Cond.code ({ cls := "SettingsInLayers", name := "sources", desc := "(II)I" } : Jvm.MethodName) prog_1_method_17_code (4 : Nat) (Option.some Jvm.ClassFile.FieldType.int)) ∈ tblG := tm_0 (tm_t (tm_3 (List.mem_of_getElem? (i := 179) rfl))) rfl
theorem tw_660 : (Jvm.Cond.methodLink "SettingsInLayersLaw" (82 : Nat) ({ cls := "SettingsInLayers", name := "uses", desc := "(II)I" } : Jvm.MethodName)) ∈ tblG := tm_0 (tm_t (tm_3 (List.mem_of_getElem? (i := 180) rfl))) rfl
theorem tw_661 : (Jvm.Cond.instanceMethod ({ cls := "SettingsInLayers", name := "uses", desc := "(II)I" } : Jvm.MethodName)) ∈ tblG := tm_0 (tm_t (tm_3 (List.mem_of_getElem? (i := 181) rfl))) rfl
theorem tw_662 : (Jvm.Cond.selects "SettingsInLayers" ({ cls := "SettingsInLayers", name := "uses", desc := "(II)I" } : Jvm.MethodName) ({ cls := "SettingsInLayers", name := "uses", desc := "(II)I" } : Jvm.MethodName)) ∈ tblG := tm_0 (tm_t (tm_3 (List.mem_of_getElem? (i := 182) rfl))) rfl
theorem tw_663 : (Jvm.Cond.code ({ cls := "SettingsInLayers", name := "uses", desc := "(II)I" } : Jvm.MethodName) prog_1_method_18_code (3 : Nat) (Option.some Jvm.ClassFile.FieldType.int)) ∈ tblG := tm_0 (tm_t (tm_3 (List.mem_of_getElem? (i := 183) rfl))) rfl
theorem tw_664 : (Jvm.Cond.methodLink "SettingsInLayers" (205 : Nat) ({ cls := "SettingsInLayers", name := "usedBy", desc := "(I)I" } : Jvm.MethodName)) ∈ tblG := tm_0 (tm_t (tm_3 (List.mem_of_getElem? (i := 184) rfl))) rfl
theorem tw_666 : (Jvm.Cond.instanceMethod ({ cls := "SettingsInLayers", name := "usedBy", desc := "(I)I" } : Jvm.MethodName)) ∈ tblG := tm_0 (tm_t (tm_3 (List.mem_of_getElem? (i := 186) rfl))) rfl
theorem tw_667 : (Jvm.Cond.code ({ cls := "SettingsInLayers", name := "usedBy", desc := "(I)I" } : Jvm.MethodName) prog_1_method_46_code (4 : Nat) (Option.some Jvm.ClassFile.FieldType.int)) ∈ tblG := tm_0 (tm_t (tm_3 (List.mem_of_getElem? (i := 187) rfl))) rfl
theorem tw_668 : (Jvm.Cond.methodLink "SettingsInLayersLaw" (86 : Nat) ({ cls := "SettingsInLayers", name := "all", desc := "(I)I" } : Jvm.MethodName)) ∈ tblG := tm_0 (tm_t (tm_3 (List.mem_of_getElem? (i := 188) rfl))) rfl
theorem tw_669 : (Jvm.Cond.instanceMethod ({ cls := "SettingsInLayers", name := "all", desc := "(I)I" } : Jvm.MethodName)) ∈ tblG := tm_0 (tm_t (tm_3 (List.mem_of_getElem? (i := 189) rfl))) rfl
theorem tw_670 : (Jvm.Cond.selects "SettingsInLayers" ({ cls := "SettingsInLayers", name := "all", desc := "(I)I" } : Jvm.MethodName) ({ cls := "SettingsInLayers", name := "all", desc := "(I)I" } : Jvm.MethodName)) ∈ tblG := tm_0 (tm_t (tm_3 (List.mem_of_getElem? (i := 190) rfl))) rfl
theorem tw_671 : (Jvm.Cond.code ({ cls := "SettingsInLayers", name := "all", desc := "(I)I" } : Jvm.MethodName) prog_1_method_19_code (4 : Nat) (Option.some Jvm.ClassFile.FieldType.int)) ∈ tblG := tm_0 (tm_t (tm_3 (List.mem_of_getElem? (i := 191) rfl))) rfl
theorem tw_672 : (Jvm.Cond.methodLink "SettingsInLayers" (208 : Nat) ({ cls := "SettingsInLayers", name := "isAmong", desc := "(LSettingsInLayers$Outcome;II)Z" } : Jvm.MethodName)) ∈ tblG := tm_0 (tm_t (tm_3 (List.mem_of_getElem? (i := 192) rfl))) rfl
theorem tw_673 : (Jvm.Cond.static ({ cls := "SettingsInLayers", name := "isAmong", desc := "(LSettingsInLayers$Outcome;II)Z" } : Jvm.MethodName)) ∈ tblG := tm_0 (tm_t (tm_3 (List.mem_of_getElem? (i := 193) rfl))) rfl
theorem tw_674 : (Jvm.Cond.code ({ cls := "SettingsInLayers", name := "isAmong", desc := "(LSettingsInLayers$Outcome;II)Z" } : Jvm.MethodName) prog_1_method_47_code (3 : Nat) (Option.some Jvm.ClassFile.FieldType.boolean)) ∈ tblG := tm_0 (tm_t (tm_3 (List.mem_of_getElem? (i := 194) rfl))) rfl
theorem tw_675 : (Jvm.Cond.methodLink "SettingsInLayers" (299 : Nat) ({ cls := "SettingsInLayers$Outcome", name := "isInCycle", desc := "(I)Z" } : Jvm.MethodName)) ∈ tblG := tm_0 (tm_t (tm_3 (List.mem_of_getElem? (i := 195) rfl))) rfl
theorem tw_676 : (Jvm.Cond.instanceMethod ({ cls := "SettingsInLayers$Outcome", name := "isInCycle", desc := "(I)Z" } : Jvm.MethodName)) ∈ tblG := tm_0 (tm_t (tm_3 (List.mem_of_getElem? (i := 196) rfl))) rfl
theorem tw_677 : (Jvm.Cond.selects "SettingsInLayers$Outcome" ({ cls := "SettingsInLayers$Outcome", name := "isInCycle", desc := "(I)Z" } : Jvm.MethodName) ({ cls := "SettingsInLayers$Outcome", name := "isInCycle", desc := "(I)Z" } : Jvm.MethodName)) ∈ tblG := tm_0 (tm_t (tm_3 (List.mem_of_getElem? (i := 197) rfl))) rfl
theorem tw_678 : (Jvm.Cond.code ({ cls := "SettingsInLayers$Outcome", name := "isInCycle", desc := "(I)Z" } : Jvm.MethodName) prog_3_method_13_code (3 : Nat) (Option.some Jvm.ClassFile.FieldType.boolean)) ∈ tblG := tm_0 (tm_t (tm_3 (List.mem_of_getElem? (i := 198) rfl))) rfl
theorem tw_679 : (Jvm.Cond.methodLink "SettingsInLayersLaw" (90 : Nat) ({ cls := "SettingsInLayers", name := "hidden", desc := "(I)I" } : Jvm.MethodName)) ∈ tblG := tm_0 (tm_t (tm_3 (List.mem_of_getElem? (i := 199) rfl))) rfl
theorem tw_680 : (Jvm.Cond.instanceMethod ({ cls := "SettingsInLayers", name := "hidden", desc := "(I)I" } : Jvm.MethodName)) ∈ tblG := tm_0 (tm_t (tm_3 (List.mem_of_getElem? (i := 200) rfl))) rfl
theorem tw_681 : (Jvm.Cond.selects "SettingsInLayers" ({ cls := "SettingsInLayers", name := "hidden", desc := "(I)I" } : Jvm.MethodName) ({ cls := "SettingsInLayers", name := "hidden", desc := "(I)I" } : Jvm.MethodName)) ∈ tblG := tm_0 (tm_t (tm_3 (List.mem_of_getElem? (i := 201) rfl))) rfl
theorem tw_682 : (Jvm.Cond.code ({ cls := "SettingsInLayers", name := "hidden", desc := "(I)I" } : Jvm.MethodName) prog_1_method_20_code (5 : Nat) (Option.some Jvm.ClassFile.FieldType.int)) ∈ tblG := tm_0 (tm_t (tm_3 (List.mem_of_getElem? (i := 202) rfl))) rfl
theorem tw_683 : (Jvm.Cond.methodLink "SettingsInLayers" (212 : Nat) ({ cls := "SettingsInLayers$Outcome", name := "keep", desc := "(LSettingsInLayers$Outcome;)V" } : Jvm.MethodName)) ∈ tblG := tm_0 (tm_t (tm_3 (List.mem_of_getElem? (i := 203) rfl))) rfl
theorem tw_684 : (Jvm.Cond.instanceMethod ({ cls := "SettingsInLayers$Outcome", name := "keep", desc := "(LSettingsInLayers$Outcome;)V" } : Jvm.MethodName)) ∈ tblG := tm_0 (tm_t (tm_3 (List.mem_of_getElem? (i := 204) rfl))) rfl
theorem tw_685 : (Jvm.Cond.selects "SettingsInLayers$Outcome" ({ cls := "SettingsInLayers$Outcome", name := "keep", desc := "(LSettingsInLayers$Outcome;)V" } : Jvm.MethodName) ({ cls := "SettingsInLayers$Outcome", name := "keep", desc := "(LSettingsInLayers$Outcome;)V" } : Jvm.MethodName)) ∈ tblG := tm_0 (tm_t (tm_3 (List.mem_of_getElem? (i := 205) rfl))) rfl
theorem tw_686 : (Jvm.Cond.code ({ cls := "SettingsInLayers$Outcome", name := "keep", desc := "(LSettingsInLayers$Outcome;)V" } : Jvm.MethodName) prog_3_method_14_code (2 : Nat) (Option.none : Option Jvm.ClassFile.FieldType)) ∈ tblG := tm_0 (tm_t (tm_3 (List.mem_of_getElem? (i := 206) rfl))) rfl
theorem tw_687 : (Jvm.Cond.methodLink "SettingsInLayers" (220 : Nat) ({ cls := "SettingsInLayers$Outcome", name := "isLike", desc := "(LSettingsInLayers$Outcome;)Z" } : Jvm.MethodName)) ∈ tblG := tm_0 (tm_t (tm_3 (List.mem_of_getElem? (i := 207) rfl))) rfl
theorem tw_688 : (Jvm.Cond.instanceMethod ({ cls := "SettingsInLayers$Outcome", name := "isLike", desc := "(LSettingsInLayers$Outcome;)Z" } : Jvm.MethodName)) ∈ tblG := tm_0 (tm_t (tm_3 (List.mem_of_getElem? (i := 208) rfl))) rfl
theorem tw_689 : (Jvm.Cond.selects "SettingsInLayers$Outcome" ({ cls := "SettingsInLayers$Outcome", name := "isLike", desc := "(LSettingsInLayers$Outcome;)Z" } : Jvm.MethodName) ({ cls := "SettingsInLayers$Outcome", name := "isLike", desc := "(LSettingsInLayers$Outcome;)Z" } : Jvm.MethodName)) ∈ tblG := tm_0 (tm_t (tm_3 (List.mem_of_getElem? (i := 209) rfl))) rfl
theorem tw_690 : (Jvm.Cond.code ({ cls := "SettingsInLayers$Outcome", name := "isLike", desc := "(LSettingsInLayers$Outcome;)Z" } : Jvm.MethodName) prog_3_method_15_code (2 : Nat) (Option.some Jvm.ClassFile.FieldType.boolean)) ∈ tblG := tm_0 (tm_t (tm_3 (List.mem_of_getElem? (i := 210) rfl))) rfl
theorem tw_691 : (Jvm.Cond.methodLink "SettingsInLayers$Outcome" (83 : Nat) ({ cls := "SettingsInLayers$Outcome", name := "isAlike", desc := "([I[II)Z" } : Jvm.MethodName)) ∈ tblG := tm_0 (tm_t (tm_3 (List.mem_of_getElem? (i := 211) rfl))) rfl
theorem tw_692 : (Jvm.Cond.static ({ cls := "SettingsInLayers$Outcome", name := "isAlike", desc := "([I[II)Z" } : Jvm.MethodName)) ∈ tblG := tm_0 (tm_t (tm_3 (List.mem_of_getElem? (i := 212) rfl))) rfl
theorem tw_693 : (Jvm.Cond.code ({ cls := "SettingsInLayers$Outcome", name := "isAlike", desc := "([I[II)Z" } : Jvm.MethodName) prog_3_method_16_code (4 : Nat) (Option.some Jvm.ClassFile.FieldType.boolean)) ∈ tblG := tm_0 (tm_t (tm_3 (List.mem_of_getElem? (i := 213) rfl))) rfl
theorem tw_694 : (Jvm.Cond.methodLink "SettingsInLayersLaw" (94 : Nat) ({ cls := "SettingsInLayers", name := "without", desc := "(II)I" } : Jvm.MethodName)) ∈ tblG := tm_0 (tm_t (tm_3 (List.mem_of_getElem? (i := 214) rfl))) rfl
theorem tw_695 : (Jvm.Cond.instanceMethod ({ cls := "SettingsInLayers", name := "without", desc := "(II)I" } : Jvm.MethodName)) ∈ tblG := tm_0 (tm_t (tm_3 (List.mem_of_getElem? (i := 215) rfl))) rfl
theorem tw_696 : (Jvm.Cond.selects "SettingsInLayers" ({ cls := "SettingsInLayers", name := "without", desc := "(II)I" } : Jvm.MethodName) ({ cls := "SettingsInLayers", name := "without", desc := "(II)I" } : Jvm.MethodName)) ∈ tblG := tm_0 (tm_t (tm_3 (List.mem_of_getElem? (i := 216) rfl))) rfl
theorem tw_697 : (Jvm.Cond.code ({ cls := "SettingsInLayers", name := "without", desc := "(II)I" } : Jvm.MethodName) prog_1_method_21_code (3 : Nat) (Option.some Jvm.ClassFile.FieldType.int)) ∈ tblG := tm_0 (tm_t (tm_3 (List.mem_of_getElem? (i := 217) rfl))) rfl
theorem tw_698 : (Jvm.Cond.methodLink "SettingsInLayers" (227 : Nat) ({ cls := "SettingsInLayers$Outcome", name := "numberOrNothing", desc := "()I" } : Jvm.MethodName)) ∈ tblG := tm_0 (tm_t (tm_3 (List.mem_of_getElem? (i := 218) rfl))) rfl
theorem tw_699 : (Jvm.Cond.instanceMethod ({ cls := "SettingsInLayers$Outcome", name := "numberOrNothing", desc := "()I" } : Jvm.MethodName)) ∈ tblG := tm_0 (tm_t (tm_3 (List.mem_of_getElem? (i := 219) rfl))) rfl
theorem tw_700 : (Jvm.Cond.selects "SettingsInLayers$Outcome" ({ cls := "SettingsInLayers$Outcome", name := "numberOrNothing", desc := "()I" } : Jvm.MethodName) ({ cls := "SettingsInLayers$Outcome", name := "numberOrNothing", desc := "()I" } : Jvm.MethodName)) ∈ tblG := tm_0 (tm_t (tm_3 (List.mem_of_getElem? (i := 220) rfl))) rfl
theorem tw_701 : (Jvm.Cond.code ({ cls := "SettingsInLayers$Outcome", name := "numberOrNothing", desc := "()I" } : Jvm.MethodName) prog_3_method_5_code (1 : Nat) (Option.some Jvm.ClassFile.FieldType.int)) ∈ tblG := tm_0 (tm_t (tm_3 (List.mem_of_getElem? (i := 221) rfl))) rfl
theorem tw_702 : (Jvm.Cond.methodLink "SettingsInLayersLaw" (98 : Nat) ({ cls := "SettingsInLayers", name := "turn", desc := "(II)I" } : Jvm.MethodName)) ∈ tblG := tm_0 (tm_t (tm_3 (List.mem_of_getElem? (i := 222) rfl))) rfl
theorem tw_703 : (Jvm.Cond.instanceMethod ({ cls := "SettingsInLayers", name := "turn", desc := "(II)I" } : Jvm.MethodName)) ∈ tblG := tm_0 (tm_t (tm_3 (List.mem_of_getElem? (i := 223) rfl))) rfl
theorem tw_704 : (Jvm.Cond.selects "SettingsInLayers" ({ cls := "SettingsInLayers", name := "turn", desc := "(II)I" } : Jvm.MethodName) ({ cls := "SettingsInLayers", name := "turn", desc := "(II)I" } : Jvm.MethodName)) ∈ tblG := tm_0 (tm_t (tm_3 (List.mem_of_getElem? (i := 224) rfl))) rfl
theorem tw_705 : (Jvm.Cond.code ({ cls := "SettingsInLayers", name := "turn", desc := "(II)I" } : Jvm.MethodName) prog_1_method_22_code (5 : Nat) (Option.some Jvm.ClassFile.FieldType.int)) ∈ tblG := tm_0 (tm_t (tm_3 (List.mem_of_getElem? (i := 225) rfl))) rfl
theorem tw_706 : (Jvm.Cond.methodLink "SettingsInLayersLaw" (102 : Nat) ({ cls := "SettingsInLayers", name := "set", desc := "(IIII)I" } : Jvm.MethodName)) ∈ tblG := tm_0 (tm_t (tm_3 (List.mem_of_getElem? (i := 226) rfl))) rfl
theorem tw_707 : (Jvm.Cond.instanceMethod ({ cls := "SettingsInLayers", name := "set", desc := "(IIII)I" } : Jvm.MethodName)) ∈ tblG := tm_0 (tm_t (tm_3 (List.mem_of_getElem? (i := 227) rfl))) rfl
theorem tw_708 : (Jvm.Cond.selects "SettingsInLayers" ({ cls := "SettingsInLayers", name := "set", desc := "(IIII)I" } : Jvm.MethodName) ({ cls := "SettingsInLayers", name := "set", desc := "(IIII)I" } : Jvm.MethodName)) ∈ tblG := tm_0 (tm_t (tm_3 (List.mem_of_getElem? (i := 228) rfl))) rfl
theorem tw_709 : (Jvm.Cond.code ({ cls := "SettingsInLayers", name := "set", desc := "(IIII)I" } : Jvm.MethodName) prog_1_method_23_code (8 : Nat) (Option.some Jvm.ClassFile.FieldType.int)) ∈ tblG := tm_0 (tm_t (tm_3 (List.mem_of_getElem? (i := 229) rfl))) rfl
theorem tw_710 : (Jvm.Cond.methodLink "SettingsInLayers" (230 : Nat) ({ cls := "SettingsInLayers$Scene", name := "putOn", desc := "(III)V" } : Jvm.MethodName)) ∈ tblG := tm_0 (tm_t (tm_3 (List.mem_of_getElem? (i := 230) rfl))) rfl
theorem tw_711 : (Jvm.Cond.instanceMethod ({ cls := "SettingsInLayers$Scene", name := "putOn", desc := "(III)V" } : Jvm.MethodName)) ∈ tblG := tm_0 (tm_t (tm_3 (List.mem_of_getElem? (i := 231) rfl))) rfl
theorem tw_712 : (Jvm.Cond.selects "SettingsInLayers$Scene" ({ cls := "SettingsInLayers$Scene", name := "putOn", desc := "(III)V" } : Jvm.MethodName) ({ cls := "SettingsInLayers$Scene", name := "putOn", desc := "(III)V" } : Jvm.MethodName)) ∈ tblG := tm_0 (tm_t (tm_3 (List.mem_of_getElem? (i := 232) rfl))) rfl
theorem tw_713 : (Jvm.Cond.code ({ cls := "SettingsInLayers$Scene", name := "putOn", desc := "(III)V" } : Jvm.MethodName) prog_6_method_11_code (4 : Nat) (Option.none : Option Jvm.ClassFile.FieldType)) ∈ tblG := tm_0 (tm_t (tm_3 (List.mem_of_getElem? (i := 233) rfl))) rfl
theorem tw_714 : (Jvm.Cond.methodLink "SettingsInLayersLaw" (106 : Nat) ({ cls := "SettingsInLayers", name := "byManner", desc := "(II)I" } : Jvm.MethodName)) ∈ tblG := tm_0 (tm_t (tm_3 (List.mem_of_getElem? (i := 234) rfl))) rfl
theorem tw_715 : (Jvm.Cond.instanceMethod ({ cls := "SettingsInLayers", name := "byManner", desc := "(II)I" } : Jvm.MethodName)) ∈ tblG := tm_0 (tm_t (tm_3 (List.mem_of_getElem? (i := 235) rfl))) rfl
theorem tw_716 : (Jvm.Cond.selects "SettingsInLayers" ({ cls := "SettingsInLayers", name := "byManner", desc := "(II)I" } : Jvm.MethodName) ({ cls := "SettingsInLayers", name := "byManner", desc := "(II)I" } : Jvm.MethodName)) ∈ tblG := tm_0 (tm_t (tm_3 (List.mem_of_getElem? (i := 236) rfl))) rfl
theorem tw_717 : (Jvm.Cond.code ({ cls := "SettingsInLayers", name := "byManner", desc := "(II)I" } : Jvm.MethodName) prog_1_method_24_code (6 : Nat) (Option.some Jvm.ClassFile.FieldType.int)) ∈ tblG := tm_0 (tm_t (tm_3 (List.mem_of_getElem? (i := 237) rfl))) rfl
theorem tw_718 : (Jvm.Cond.methodLink "SettingsInLayersLaw" (110 : Nat) ({ cls := "SettingsInLayers", name := "fewest", desc := "()I" } : Jvm.MethodName)) ∈ tblG := tm_0 (tm_t (tm_3 (List.mem_of_getElem? (i := 238) rfl))) rfl
theorem tw_719 : (Jvm.Cond.instanceMethod ({ cls := "SettingsInLayers", name := "fewest", desc := "()I" } : Jvm.MethodName)) ∈ tblG := tm_0 (tm_t (tm_3 (List.mem_of_getElem? (i := 239) rfl))) rfl
theorem tw_720 : (Jvm.Cond.selects "SettingsInLayers" ({ cls := "SettingsInLayers", name := "fewest", desc := "()I" } : Jvm.MethodName) ({ cls := "SettingsInLayers", name := "fewest", desc := "()I" } : Jvm.MethodName)) ∈ tblG := tm_0 (tm_t (tm_4 (List.mem_of_getElem? (i := 0) rfl))) rfl
theorem tw_721 : (Jvm.Cond.code ({ cls := "SettingsInLayers", name := "fewest", desc := "()I" } : Jvm.MethodName) prog_1_method_25_code (3 : Nat) (Option.some Jvm.ClassFile.FieldType.int)) ∈ tblG := tm_0 (tm_t (tm_4 (List.mem_of_getElem? (i := 1) rfl))) rfl
theorem tw_722 : (Jvm.Cond.methodLink "SettingsInLayers" (233 : Nat) ({ cls := "SettingsInLayers", name := "keepPresent", desc := "()V" } : Jvm.MethodName)) ∈ tblG := tm_0 (tm_t (tm_4 (List.mem_of_getElem? (i := 2) rfl))) rfl
theorem tw_724 : (Jvm.Cond.instanceMethod ({ cls := "SettingsInLayers", name := "keepPresent", desc := "()V" } : Jvm.MethodName)) ∈ tblG := tm_0 (tm_t (tm_4 (List.mem_of_getElem? (i := 4) rfl))) rfl
theorem tw_725 : (Jvm.Cond.code ({ cls := "SettingsInLayers", name := "keepPresent", desc := "()V" } : Jvm.MethodName) prog_1_method_50_code (2 : Nat) (Option.none : Option Jvm.ClassFile.FieldType)) ∈ tblG := tm_0 (tm_t (tm_4 (List.mem_of_getElem? (i := 5) rfl))) rfl
theorem tw_726 : (Jvm.Cond.methodLink "SettingsInLayers" (236 : Nat) ({ cls := "SettingsInLayers", name := "isPresentBy", desc := "(I)Z" } : Jvm.MethodName)) ∈ tblG := tm_0 (tm_t (tm_4 (List.mem_of_getElem? (i := 6) rfl))) rfl
theorem tw_728 : (Jvm.Cond.instanceMethod ({ cls := "SettingsInLayers", name := "isPresentBy", desc := "(I)Z" } : Jvm.MethodName)) ∈ tblG := tm_0 (tm_t (tm_4 (List.mem_of_getElem? (i := 8) rfl))) rfl
theorem tw_729 : (Jvm.Cond.code ({ cls := "SettingsInLayers", name := "isPresentBy", desc := "(I)Z" } : Jvm.MethodName) prog_1_method_51_code (3 : Nat) (Option.some Jvm.ClassFile.FieldType.boolean)) ∈ tblG := tm_0 (tm_t (tm_4 (List.mem_of_getElem? (i := 9) rfl))) rfl
theorem tw_730 : (Jvm.Cond.methodLink "SettingsInLayersLaw" (114 : Nat) ({ cls := "SettingsInLayers", name := "since", desc := "()I" } : Jvm.MethodName)) ∈ tblG := tm_0 (tm_t (tm_4 (List.mem_of_getElem? (i := 10) rfl))) rfl
theorem tw_731 : (Jvm.Cond.instanceMethod ({ cls := "SettingsInLayers", name := "since", desc := "()I" } : Jvm.MethodName)) ∈ tblG := tm_0 (tm_t (tm_4 (List.mem_of_getElem? (i := 11) rfl))) rfl
theorem tw_732 : (Jvm.Cond.selects "SettingsInLayers" ({ cls := "SettingsInLayers", name := "since", desc := "()I" } : Jvm.MethodName) ({ cls := "SettingsInLayers", name := "since", desc := "()I" } : Jvm.MethodName)) ∈ tblG := tm_0 (tm_t (tm_4 (List.mem_of_getElem? (i := 12) rfl))) rfl
theorem tw_733 : (Jvm.Cond.code ({ cls := "SettingsInLayers", name := "since", desc := "()I" } : Jvm.MethodName) prog_1_method_26_code (3 : Nat) (Option.some Jvm.ClassFile.FieldType.int)) ∈ tblG := tm_0 (tm_t (tm_4 (List.mem_of_getElem? (i := 13) rfl))) rfl
theorem tw_734 : (Jvm.Cond.methodLink "SettingsInLayersLaw" (118 : Nat) ({ cls := "SettingsInLayers", name := "missing", desc := "(IIII)J" } : Jvm.MethodName)) ∈ tblG := tm_0 (tm_t (tm_4 (List.mem_of_getElem? (i := 14) rfl))) rfl
theorem tw_735 : (Jvm.Cond.instanceMethod ({ cls := "SettingsInLayers", name := "missing", desc := "(IIII)J" } : Jvm.MethodName)) ∈ tblG := tm_0 (tm_t (tm_4 (List.mem_of_getElem? (i := 15) rfl))) rfl
theorem tw_736 : (Jvm.Cond.selects "SettingsInLayers" ({ cls := "SettingsInLayers", name := "missing", desc := "(IIII)J" } : Jvm.MethodName) ({ cls := "SettingsInLayers", name := "missing", desc := "(IIII)J" } : Jvm.MethodName)) ∈ tblG := tm_0 (tm_t (tm_4 (List.mem_of_getElem? (i := 16) rfl))) rfl
theorem tw_737 : (Jvm.Cond.code ({ cls := "SettingsInLayers", name := "missing", desc := "(IIII)J" } : Jvm.MethodName) prog_1_method_27_code (8 : Nat) (Option.some Jvm.ClassFile.FieldType.long)) ∈ tblG := tm_0 (tm_t (tm_4 (List.mem_of_getElem? (i := 17) rfl))) rfl
theorem tw_738 : (Jvm.Cond.methodLink "SettingsInLayers" (243 : Nat) ({ cls := "SettingsInLayers", name := "refuseLong", desc := "(I)J" } : Jvm.MethodName)) ∈ tblG := tm_0 (tm_t (tm_4 (List.mem_of_getElem? (i := 18) rfl))) rfl
theorem tw_740 : (Jvm.Cond.instanceMethod ({ cls := "SettingsInLayers", name := "refuseLong", desc := "(I)J" } : Jvm.MethodName)) ∈ tblG := tm_0 (tm_t (tm_4 (List.mem_of_getElem? (i := 20) rfl))) rfl
theorem tw_741 : (Jvm.Cond.code ({ cls := "SettingsInLayers", name := "refuseLong", desc := "(I)J" } : Jvm.MethodName) prog_1_method_42_code (2 : Nat) (Option.some Jvm.ClassFile.FieldType.long)) ∈ tblG := tm_0 (tm_t (tm_4 (List.mem_of_getElem? (i := 21) rfl))) rfl
theorem tw_742 : (Jvm.Cond.constantLong "SettingsInLayers" (284 : Nat) (4000000000000000000 : Int64)) ∈ tblG := tm_0 (tm_t (tm_4 (List.mem_of_getElem? (i := 22) rfl))) rfl
theorem tw_743 : (Jvm.Cond.methodLink "SettingsInLayers" (247 : Nat) ({ cls := "SettingsInLayers", name := "power", desc := "(JI)J" } : Jvm.MethodName)) ∈ tblG := tm_0 (tm_t (tm_4 (List.mem_of_getElem? (i := 23) rfl))) rfl
theorem tw_744 : (Jvm.Cond.static ({ cls := "SettingsInLayers", name := "power", desc := "(JI)J" } : Jvm.MethodName)) ∈ tblG := tm_0 (tm_t (tm_4 (List.mem_of_getElem? (i := 24) rfl))) rfl
theorem tw_745 : (Jvm.Cond.code ({ cls := "SettingsInLayers", name := "power", desc := "(JI)J" } : Jvm.MethodName) prog_1_method_54_code (6 : Nat) (Option.some Jvm.ClassFile.FieldType.long)) ∈ tblG := tm_0 (tm_t (tm_4 (List.mem_of_getElem? (i := 25) rfl))) rfl
theorem tw_746 : (Jvm.Cond.methodLink "SettingsInLayers" (251 : Nat) ({ cls := "SettingsInLayers", name := "leastTerms", desc := "(JJI)J" } : Jvm.MethodName)) ∈ tblG := tm_0 (tm_t (tm_4 (List.mem_of_getElem? (i := 26) rfl))) rfl
theorem tw_747 : (Jvm.Cond.static ({ cls := "SettingsInLayers", name := "leastTerms", desc := "(JJI)J" } : Jvm.MethodName)) ∈ tblG := tm_0 (tm_t (tm_4 (List.mem_of_getElem? (i := 27) rfl))) rfl
theorem tw_748 : (Jvm.Cond.code ({ cls := "SettingsInLayers", name := "leastTerms", desc := "(JJI)J" } : Jvm.MethodName) prog_1_method_55_code (7 : Nat) (Option.some Jvm.ClassFile.FieldType.long)) ∈ tblG := tm_0 (tm_t (tm_4 (List.mem_of_getElem? (i := 28) rfl))) rfl
theorem tw_749 : (Jvm.Cond.methodLink "SettingsInLayers" (313 : Nat) ({ cls := "SettingsInLayers", name := "commonDivisor", desc := "(JJ)J" } : Jvm.MethodName)) ∈ tblG := tm_0 (tm_t (tm_4 (List.mem_of_getElem? (i := 29) rfl))) rfl
theorem tw_750 : (Jvm.Cond.static ({ cls := "SettingsInLayers", name := "commonDivisor", desc := "(JJ)J" } : Jvm.MethodName)) ∈ tblG := tm_0 (tm_t (tm_4 (List.mem_of_getElem? (i := 30) rfl))) rfl
theorem tw_751 : (Jvm.Cond.code ({ cls := "SettingsInLayers", name := "commonDivisor", desc := "(JJ)J" } : Jvm.MethodName) prog_1_method_56_code (11 : Nat) (Option.some Jvm.ClassFile.FieldType.long)) ∈ tblG := tm_0 (tm_t (tm_4 (List.mem_of_getElem? (i := 31) rfl))) rfl
theorem tw_752 : (Jvm.Cond.methodLink "SettingsInLayersLaw" (123 : Nat) ({ cls := "SettingsInLayers", name := "mean", desc := "(I)J" } : Jvm.MethodName)) ∈ tblG := tm_0 (tm_t (tm_4 (List.mem_of_getElem? (i := 32) rfl))) rfl
theorem tw_753 : (Jvm.Cond.instanceMethod ({ cls := "SettingsInLayers", name := "mean", desc := "(I)J" } : Jvm.MethodName)) ∈ tblG := tm_0 (tm_t (tm_4 (List.mem_of_getElem? (i := 33) rfl))) rfl
theorem tw_754 : (Jvm.Cond.selects "SettingsInLayers" ({ cls := "SettingsInLayers", name := "mean", desc := "(I)J" } : Jvm.MethodName) ({ cls := "SettingsInLayers", name := "mean", desc := "(I)J" } : Jvm.MethodName)) ∈ tblG := tm_0 (tm_t (tm_4 (List.mem_of_getElem? (i := 34) rfl))) rfl
theorem tw_755 : (Jvm.Cond.code ({ cls := "SettingsInLayers", name := "mean", desc := "(I)J" } : Jvm.MethodName) prog_1_method_28_code (8 : Nat) (Option.some Jvm.ClassFile.FieldType.long)) ∈ tblG := tm_0 (tm_t (tm_4 (List.mem_of_getElem? (i := 35) rfl))) rfl
theorem tw_756 : (Jvm.Cond.methodLink "SettingsInLayersLaw" (128 : Nat) ({ cls := "SettingsInLayers", name := "whatIs", desc := "(II)I" } : Jvm.MethodName)) ∈ tblG := tm_0 (tm_t (tm_4 (List.mem_of_getElem? (i := 36) rfl))) rfl
theorem tw_757 : (Jvm.Cond.instanceMethod ({ cls := "SettingsInLayers", name := "whatIs", desc := "(II)I" } : Jvm.MethodName)) ∈ tblG := tm_0 (tm_t (tm_4 (List.mem_of_getElem? (i := 37) rfl))) rfl
theorem tw_758 : (Jvm.Cond.selects "SettingsInLayers" ({ cls := "SettingsInLayers", name := "whatIs", desc := "(II)I" } : Jvm.MethodName) ({ cls := "SettingsInLayers", name := "whatIs", desc := "(II)I" } : Jvm.MethodName)) ∈ tblG := tm_0 (tm_t (tm_4 (List.mem_of_getElem? (i := 38) rfl))) rfl
theorem tw_759 : (Jvm.Cond.code ({ cls := "SettingsInLayers", name := "whatIs", desc := "(II)I" } : Jvm.MethodName) prog_1_method_29_code (8 : Nat) (Option.some Jvm.ClassFile.FieldType.int)) ∈ tblG := tm_0 (tm_t (tm_4 (List.mem_of_getElem? (i := 39) rfl))) rfl
theorem tw_760 : (Jvm.Cond.methodLink "SettingsInLayers" (255 : Nat) ({ cls := "SettingsInLayers", name := "firstNotSo", desc := "(LSettingsInLayers$Scene;)I" } : Jvm.MethodName)) ∈ tblG := tm_0 (tm_t (tm_4 (List.mem_of_getElem? (i := 40) rfl))) rfl
theorem tw_762 : (Jvm.Cond.instanceMethod ({ cls := "SettingsInLayers", name := "firstNotSo", desc := "(LSettingsInLayers$Scene;)I" } : Jvm.MethodName)) ∈ tblG := tm_0 (tm_t (tm_4 (List.mem_of_getElem? (i := 42) rfl))) rfl
theorem tw_763 : (Jvm.Cond.code ({ cls := "SettingsInLayers", name := "firstNotSo", desc := "(LSettingsInLayers$Scene;)I" } : Jvm.MethodName) prog_1_method_52_code (3 : Nat) (Option.some Jvm.ClassFile.FieldType.int)) ∈ tblG := tm_0 (tm_t (tm_4 (List.mem_of_getElem? (i := 43) rfl))) rfl
theorem tw_764 : (Jvm.Cond.methodLink "SettingsInLayers" (307 : Nat) ({ cls := "SettingsInLayers$Row", name := "isOtherThan", desc := "(II)Z" } : Jvm.MethodName)) ∈ tblG := tm_0 (tm_t (tm_4 (List.mem_of_getElem? (i := 44) rfl))) rfl
theorem tw_765 : (Jvm.Cond.instanceMethod ({ cls := "SettingsInLayers$Row", name := "isOtherThan", desc := "(II)Z" } : Jvm.MethodName)) ∈ tblG := tm_0 (tm_t (tm_4 (List.mem_of_getElem? (i := 45) rfl))) rfl
theorem tw_766 : (Jvm.Cond.selects "SettingsInLayers$Row" ({ cls := "SettingsInLayers$Row", name := "isOtherThan", desc := "(II)Z" } : Jvm.MethodName) ({ cls := "SettingsInLayers$Row", name := "isOtherThan", desc := "(II)Z" } : Jvm.MethodName)) ∈ tblG := tm_0 (tm_t (tm_4 (List.mem_of_getElem? (i := 46) rfl))) rfl
theorem tw_767 : (Jvm.Cond.code ({ cls := "SettingsInLayers$Row", name := "isOtherThan", desc := "(II)Z" } : Jvm.MethodName) prog_5_method_3_code (3 : Nat) (Option.some Jvm.ClassFile.FieldType.boolean)) ∈ tblG := tm_0 (tm_t (tm_4 (List.mem_of_getElem? (i := 47) rfl))) rfl
theorem tw_768 : (Jvm.Cond.methodLink "SettingsInLayersLaw" (132 : Nat) ({ cls := "SettingsInLayers", name := "row", desc := "(I)I" } : Jvm.MethodName)) ∈ tblG := tm_0 (tm_t (tm_4 (List.mem_of_getElem? (i := 48) rfl))) rfl
theorem tw_769 : (Jvm.Cond.instanceMethod ({ cls := "SettingsInLayers", name := "row", desc := "(I)I" } : Jvm.MethodName)) ∈ tblG := tm_0 (tm_t (tm_4 (List.mem_of_getElem? (i := 49) rfl))) rfl
theorem tw_770 : (Jvm.Cond.selects "SettingsInLayers" ({ cls := "SettingsInLayers", name := "row", desc := "(I)I" } : Jvm.MethodName) ({ cls := "SettingsInLayers", name := "row", desc := "(I)I" } : Jvm.MethodName)) ∈ tblG := tm_0 (tm_t (tm_4 (List.mem_of_getElem? (i := 50) rfl))) rfl
theorem tw_771 : (Jvm.Cond.code ({ cls := "SettingsInLayers", name := "row", desc := "(I)I" } : Jvm.MethodName) prog_1_method_30_code (2 : Nat) (Option.some Jvm.ClassFile.FieldType.int)) ∈ tblG := tm_0 (tm_t (tm_4 (List.mem_of_getElem? (i := 51) rfl))) rfl
theorem tw_772 : (Jvm.Cond.methodLink "SettingsInLayers" (262 : Nat) ({ cls := "SettingsInLayers$Row", name := "append", desc := "(I)I" } : Jvm.MethodName)) ∈ tblG := tm_0 (tm_t (tm_4 (List.mem_of_getElem? (i := 52) rfl))) rfl
theorem tw_773 : (Jvm.Cond.instanceMethod ({ cls := "SettingsInLayers$Row", name := "append", desc := "(I)I" } : Jvm.MethodName)) ∈ tblG := tm_0 (tm_t (tm_4 (List.mem_of_getElem? (i := 53) rfl))) rfl
theorem tw_774 : (Jvm.Cond.selects "SettingsInLayers$Row" ({ cls := "SettingsInLayers$Row", name := "append", desc := "(I)I" } : Jvm.MethodName) ({ cls := "SettingsInLayers$Row", name := "append", desc := "(I)I" } : Jvm.MethodName)) ∈ tblG := tm_0 (tm_t (tm_4 (List.mem_of_getElem? (i := 54) rfl))) rfl
theorem tw_775 : (Jvm.Cond.code ({ cls := "SettingsInLayers$Row", name := "append", desc := "(I)I" } : Jvm.MethodName) prog_5_method_2_code (2 : Nat) (Option.some Jvm.ClassFile.FieldType.int)) ∈ tblG := tm_0 (tm_t (tm_4 (List.mem_of_getElem? (i := 55) rfl))) rfl
theorem tw_776 : (Jvm.Cond.methodLink "SettingsInLayersLaw" (136 : Nat) ({ cls := "SettingsInLayers", name := "judge", desc := "()I" } : Jvm.MethodName)) ∈ tblG := tm_0 (tm_t (tm_4 (List.mem_of_getElem? (i := 56) rfl))) rfl
theorem tw_777 : (Jvm.Cond.instanceMethod ({ cls := "SettingsInLayers", name := "judge", desc := "()I" } : Jvm.MethodName)) ∈ tblG := tm_0 (tm_t (tm_4 (List.mem_of_getElem? (i := 57) rfl))) rfl
theorem tw_778 : (Jvm.Cond.selects "SettingsInLayers" ({ cls := "SettingsInLayers", name := "judge", desc := "()I" } : Jvm.MethodName) ({ cls := "SettingsInLayers", name := "judge", desc := "()I" } : Jvm.MethodName)) ∈ tblG := tm_0 (tm_t (tm_4 (List.mem_of_getElem? (i := 58) rfl))) rfl
theorem tw_779 : (Jvm.Cond.code ({ cls := "SettingsInLayers", name := "judge", desc := "()I" } : Jvm.MethodName) prog_1_method_31_code (2 : Nat) (Option.some Jvm.ClassFile.FieldType.int)) ∈ tblG := tm_0 (tm_t (tm_4 (List.mem_of_getElem? (i := 59) rfl))) rfl
theorem tw_780 : (Jvm.Cond.methodLink "SettingsInLayersLaw" (140 : Nat) ({ cls := "SettingsInLayers", name := "clear", desc := "()I" } : Jvm.MethodName)) ∈ tblG := tm_0 (tm_t (tm_4 (List.mem_of_getElem? (i := 60) rfl))) rfl
theorem tw_781 : (Jvm.Cond.instanceMethod ({ cls := "SettingsInLayers", name := "clear", desc := "()I" } : Jvm.MethodName)) ∈ tblG := tm_0 (tm_t (tm_4 (List.mem_of_getElem? (i := 61) rfl))) rfl
theorem tw_782 : (Jvm.Cond.selects "SettingsInLayers" ({ cls := "SettingsInLayers", name := "clear", desc := "()I" } : Jvm.MethodName) ({ cls := "SettingsInLayers", name := "clear", desc := "()I" } : Jvm.MethodName)) ∈ tblG := tm_0 (tm_t (tm_4 (List.mem_of_getElem? (i := 62) rfl))) rfl
theorem tw_783 : (Jvm.Cond.code ({ cls := "SettingsInLayers", name := "clear", desc := "()I" } : Jvm.MethodName) prog_1_method_32_code (2 : Nat) (Option.some Jvm.ClassFile.FieldType.int)) ∈ tblG := tm_0 (tm_t (tm_4 (List.mem_of_getElem? (i := 63) rfl))) rfl
theorem tw_784 : (Jvm.Cond.methodLink "SettingsInLayersLaw" (144 : Nat) ({ cls := "SettingsInLayers", name := "lots", desc := "(III)I" } : Jvm.MethodName)) ∈ tblG := tm_0 (tm_t (tm_4 (List.mem_of_getElem? (i := 64) rfl))) rfl
theorem tw_785 : (Jvm.Cond.instanceMethod ({ cls := "SettingsInLayers", name := "lots", desc := "(III)I" } : Jvm.MethodName)) ∈ tblG := tm_0 (tm_t (tm_4 (List.mem_of_getElem? (i := 65) rfl))) rfl
theorem tw_786 : (Jvm.Cond.selects "SettingsInLayers" ({ cls := "SettingsInLayers", name := "lots", desc := "(III)I" } : Jvm.MethodName) ({ cls := "SettingsInLayers", name := "lots", desc := "(III)I" } : Jvm.MethodName)) ∈ tblG := tm_0 (tm_t (tm_4 (List.mem_of_getElem? (i := 66) rfl))) rfl
theorem tw_787 : (Jvm.Cond.code ({ cls := "SettingsInLayers", name := "lots", desc := "(III)I" } : Jvm.MethodName) prog_1_method_33_code (6 : Nat) (Option.some Jvm.ClassFile.FieldType.int)) ∈ tblG := tm_0 (tm_t (tm_4 (List.mem_of_getElem? (i := 67) rfl))) rfl
theorem tw_788 : (Jvm.Cond.methodLink "SettingsInLayers" (266 : Nat) ({ cls := "SettingsInLayers", name := "drawTrial", desc := "()V" } : Jvm.MethodName)) ∈ tblG := tm_0 (tm_t (tm_4 (List.mem_of_getElem? (i := 68) rfl))) rfl
theorem tw_790 : (Jvm.Cond.instanceMethod ({ cls := "SettingsInLayers", name := "drawTrial", desc := "()V" } : Jvm.MethodName)) ∈ tblG := tm_0 (tm_t (tm_4 (List.mem_of_getElem? (i := 70) rfl))) rfl
theorem tw_791 : (Jvm.Cond.code ({ cls := "SettingsInLayers", name := "drawTrial", desc := "()V" } : Jvm.MethodName) prog_1_method_53_code (5 : Nat) (Option.none : Option Jvm.ClassFile.FieldType)) ∈ tblG := tm_0 (tm_t (tm_4 (List.mem_of_getElem? (i := 71) rfl))) rfl
theorem tw_792 : (Jvm.Cond.methodLink "SettingsInLayers" (310 : Nat) ({ cls := "SettingsInLayers$Draws", name := "below", desc := "(I)I" } : Jvm.MethodName)) ∈ tblG := tm_0 (tm_t (tm_4 (List.mem_of_getElem? (i := 72) rfl))) rfl
theorem tw_793 : (Jvm.Cond.instanceMethod ({ cls := "SettingsInLayers$Draws", name := "below", desc := "(I)I" } : Jvm.MethodName)) ∈ tblG := tm_0 (tm_t (tm_4 (List.mem_of_getElem? (i := 73) rfl))) rfl
theorem tw_794 : (Jvm.Cond.selects "SettingsInLayers$Draws" ({ cls := "SettingsInLayers$Draws", name := "below", desc := "(I)I" } : Jvm.MethodName) ({ cls := "SettingsInLayers$Draws", name := "below", desc := "(I)I" } : Jvm.MethodName)) ∈ tblG := tm_0 (tm_t (tm_4 (List.mem_of_getElem? (i := 74) rfl))) rfl
theorem tw_795 : (Jvm.Cond.code ({ cls := "SettingsInLayers$Draws", name := "below", desc := "(I)I" } : Jvm.MethodName) prog_2_method_2_code (2 : Nat) (Option.some Jvm.ClassFile.FieldType.int)) ∈ tblG := tm_0 (tm_t (tm_4 (List.mem_of_getElem? (i := 75) rfl))) rfl
theorem tw_796 : (Jvm.Cond.constant "SettingsInLayers$Draws" (13 : Nat) (1664525 : Int32)) ∈ tblG := tm_0 (tm_t (tm_4 (List.mem_of_getElem? (i := 76) rfl))) rfl
theorem tw_797 : (Jvm.Cond.constant "SettingsInLayers$Draws" (14 : Nat) (1013904223 : Int32)) ∈ tblG := tm_0 (tm_t (tm_4 (List.mem_of_getElem? (i := 77) rfl))) rfl
theorem tw_798 : (Jvm.Cond.constant "SettingsInLayers$Draws" (15 : Nat) (2147483647 : Int32)) ∈ tblG := tm_0 (tm_t (tm_4 (List.mem_of_getElem? (i := 78) rfl))) rfl
theorem tw_799 : (Jvm.Cond.methodLink "SettingsInLayers" (269 : Nat) ({ cls := "SettingsInLayers", name := "numbersTogether", desc := "(LSettingsInLayers$Scene;)I" } : Jvm.MethodName)) ∈ tblG := tm_0 (tm_t (tm_4 (List.mem_of_getElem? (i := 79) rfl))) rfl
theorem tw_801 : (Jvm.Cond.instanceMethod ({ cls := "SettingsInLayers", name := "numbersTogether", desc := "(LSettingsInLayers$Scene;)I" } : Jvm.MethodName)) ∈ tblG := tm_0 (tm_t (tm_4 (List.mem_of_getElem? (i := 81) rfl))) rfl
theorem tw_802 : (Jvm.Cond.code ({ cls := "SettingsInLayers", name := "numbersTogether", desc := "(LSettingsInLayers$Scene;)I" } : Jvm.MethodName) prog_1_method_48_code (4 : Nat) (Option.some Jvm.ClassFile.FieldType.int)) ∈ tblG := tm_0 (tm_t (tm_4 (List.mem_of_getElem? (i := 82) rfl))) rfl
theorem tw_803 : (Jvm.Cond.methodLink "SettingsInLayers" (302 : Nat) ({ cls := "java/lang/Math", name := "max", desc := "(II)I" } : Jvm.MethodName)) ∈ tblG := tm_0 (tm_t (tm_4 (List.mem_of_getElem? (i := 83) rfl))) rfl
theorem tw_804 : (Jvm.Cond.static ({ cls := "java/lang/Math", name := "max", desc := "(II)I" } : Jvm.MethodName)) ∈ tblG := tm_0 (tm_t (tm_4 (List.mem_of_getElem? (i := 84) rfl))) rfl
theorem tw_805 : (Jvm.Cond.code ({ cls := "java/lang/Math", name := "max", desc := "(II)I" } : Jvm.MethodName) prog_12_method_65_code (2 : Nat) (Option.some Jvm.ClassFile.FieldType.int)) ∈ tblG := tm_0 (tm_t (tm_4 (List.mem_of_getElem? (i := 85) rfl))) rfl
theorem tw_806 : (Jvm.Cond.methodLink "SettingsInLayers" (272 : Nat) ({ cls := "SettingsInLayers", name := "faultBits", desc := "(LSettingsInLayers$Scene;)I" } : Jvm.MethodName)) ∈ tblG := tm_0 (tm_t (tm_4 (List.mem_of_getElem? (i := 86) rfl))) rfl
theorem tw_808 : (Jvm.Cond.instanceMethod ({ cls := "SettingsInLayers", name := "faultBits", desc := "(LSettingsInLayers$Scene;)I" } : Jvm.MethodName)) ∈ tblG := tm_0 (tm_t (tm_4 (List.mem_of_getElem? (i := 88) rfl))) rfl
theorem tw_809 : (Jvm.Cond.code ({ cls := "SettingsInLayers", name := "faultBits", desc := "(LSettingsInLayers$Scene;)I" } : Jvm.MethodName) prog_1_method_49_code (4 : Nat) (Option.some Jvm.ClassFile.FieldType.int)) ∈ tblG := tm_0 (tm_t (tm_4 (List.mem_of_getElem? (i := 89) rfl))) rfl
theorem tw_810 : (Jvm.Cond.methodLink "SettingsInLayersLaw" (148 : Nat) ({ cls := "SettingsInLayers", name := "image", desc := "()I" } : Jvm.MethodName)) ∈ tblG := tm_0 (tm_t (tm_4 (List.mem_of_getElem? (i := 90) rfl))) rfl
theorem tw_811 : (Jvm.Cond.instanceMethod ({ cls := "SettingsInLayers", name := "image", desc := "()I" } : Jvm.MethodName)) ∈ tblG := tm_0 (tm_t (tm_4 (List.mem_of_getElem? (i := 91) rfl))) rfl
theorem tw_812 : (Jvm.Cond.selects "SettingsInLayers" ({ cls := "SettingsInLayers", name := "image", desc := "()I" } : Jvm.MethodName) ({ cls := "SettingsInLayers", name := "image", desc := "()I" } : Jvm.MethodName)) ∈ tblG := tm_0 (tm_t (tm_4 (List.mem_of_getElem? (i := 92) rfl))) rfl
theorem tw_813 : (Jvm.Cond.code ({ cls := "SettingsInLayers", name := "image", desc := "()I" } : Jvm.MethodName) prog_1_method_34_code (1 : Nat) (Option.some Jvm.ClassFile.FieldType.int)) ∈ tblG := tm_0 (tm_t (tm_4 (List.mem_of_getElem? (i := 93) rfl))) rfl
theorem tw_814 : (Jvm.Cond.methodLink "SettingsInLayers" (275 : Nat) ({ cls := "SettingsInLayers$Scene", name := "entries", desc := "()I" } : Jvm.MethodName)) ∈ tblG := tm_0 (tm_t (tm_4 (List.mem_of_getElem? (i := 94) rfl))) rfl
theorem tw_815 : (Jvm.Cond.instanceMethod ({ cls := "SettingsInLayers$Scene", name := "entries", desc := "()I" } : Jvm.MethodName)) ∈ tblG := tm_0 (tm_t (tm_4 (List.mem_of_getElem? (i := 95) rfl))) rfl
theorem tw_816 : (Jvm.Cond.selects "SettingsInLayers$Scene" ({ cls := "SettingsInLayers$Scene", name := "entries", desc := "()I" } : Jvm.MethodName) ({ cls := "SettingsInLayers$Scene", name := "entries", desc := "()I" } : Jvm.MethodName)) ∈ tblG := tm_0 (tm_t (tm_4 (List.mem_of_getElem? (i := 96) rfl))) rfl
theorem tw_817 : (Jvm.Cond.code ({ cls := "SettingsInLayers$Scene", name := "entries", desc := "()I" } : Jvm.MethodName) prog_6_method_16_code (3 : Nat) (Option.some Jvm.ClassFile.FieldType.int)) ∈ tblG := tm_0 (tm_t (tm_4 (List.mem_of_getElem? (i := 97) rfl))) rfl
theorem tw_818 : (Jvm.Cond.methodLink "SettingsInLayers$Scene" (68 : Nat) ({ cls := "SettingsInLayers$Scene", name := "keyBits", desc := "(I)I" } : Jvm.MethodName)) ∈ tblG := tm_0 (tm_t (tm_4 (List.mem_of_getElem? (i := 98) rfl))) rfl
theorem tw_819 : (Jvm.Cond.methodLink "SettingsInLayers$Scene" (71 : Nat) ({ cls := "java/lang/Integer", name := "bitCount", desc := "(I)I" } : Jvm.MethodName)) ∈ tblG := tm_0 (tm_t (tm_4 (List.mem_of_getElem? (i := 99) rfl))) rfl
theorem tw_820 : (Jvm.Cond.methodLink "SettingsInLayersLaw" (152 : Nat) ({ cls := "SettingsInLayers", name := "on", desc := "()I" } : Jvm.MethodName)) ∈ tblG := tm_0 (tm_t (tm_4 (List.mem_of_getElem? (i := 100) rfl))) rfl
theorem tw_821 : (Jvm.Cond.instanceMethod ({ cls := "SettingsInLayers", name := "on", desc := "()I" } : Jvm.MethodName)) ∈ tblG := tm_0 (tm_t (tm_4 (List.mem_of_getElem? (i := 101) rfl))) rfl
theorem tw_822 : (Jvm.Cond.selects "SettingsInLayers" ({ cls := "SettingsInLayers", name := "on", desc := "()I" } : Jvm.MethodName) ({ cls := "SettingsInLayers", name := "on", desc := "()I" } : Jvm.MethodName)) ∈ tblG := tm_0 (tm_t (tm_4 (List.mem_of_getElem? (i := 102) rfl))) rfl
theorem tw_823 : (Jvm.Cond.code ({ cls := "SettingsInLayers", name := "on", desc := "()I" } : Jvm.MethodName) prog_1_method_35_code (1 : Nat) (Option.some Jvm.ClassFile.FieldType.int)) ∈ tblG := tm_0 (tm_t (tm_4 (List.mem_of_getElem? (i := 103) rfl))) rfl
theorem tw_824 : (Jvm.Cond.methodLink "SettingsInLayersLaw" (156 : Nat) ({ cls := "SettingsInLayers", name := "count", desc := "(I)I" } : Jvm.MethodName)) ∈ tblG := tm_0 (tm_t (tm_4 (List.mem_of_getElem? (i := 104) rfl))) rfl
theorem tw_825 : (Jvm.Cond.instanceMethod ({ cls := "SettingsInLayers", name := "count", desc := "(I)I" } : Jvm.MethodName)) ∈ tblG := tm_0 (tm_t (tm_4 (List.mem_of_getElem? (i := 105) rfl))) rfl
theorem tw_826 : (Jvm.Cond.selects "SettingsInLayers" ({ cls := "SettingsInLayers", name := "count", desc := "(I)I" } : Jvm.MethodName) ({ cls := "SettingsInLayers", name := "count", desc := "(I)I" } : Jvm.MethodName)) ∈ tblG := tm_0 (tm_t (tm_4 (List.mem_of_getElem? (i := 106) rfl))) rfl
theorem tw_827 : (Jvm.Cond.code ({ cls := "SettingsInLayers", name := "count", desc := "(I)I" } : Jvm.MethodName) prog_1_method_36_code (2 : Nat) (Option.some Jvm.ClassFile.FieldType.int)) ∈ tblG := tm_0 (tm_t (tm_4 (List.mem_of_getElem? (i := 107) rfl))) rfl
theorem tw_828 : (Jvm.Cond.methodLink "SettingsInLayers" (278 : Nat) ({ cls := "SettingsInLayers$Scene", name := "keyBitsOfAll", desc := "()I" } : Jvm.MethodName)) ∈ tblG := tm_0 (tm_t (tm_4 (List.mem_of_getElem? (i := 108) rfl))) rfl
theorem tw_829 : (Jvm.Cond.instanceMethod ({ cls := "SettingsInLayers$Scene", name := "keyBitsOfAll", desc := "()I" } : Jvm.MethodName)) ∈ tblG := tm_0 (tm_t (tm_4 (List.mem_of_getElem? (i := 109) rfl))) rfl
theorem tw_830 : (Jvm.Cond.selects "SettingsInLayers$Scene" ({ cls := "SettingsInLayers$Scene", name := "keyBitsOfAll", desc := "()I" } : Jvm.MethodName) ({ cls := "SettingsInLayers$Scene", name := "keyBitsOfAll", desc := "()I" } : Jvm.MethodName)) ∈ tblG := tm_0 (tm_t (tm_4 (List.mem_of_getElem? (i := 110) rfl))) rfl
theorem tw_831 : (Jvm.Cond.code ({ cls := "SettingsInLayers$Scene", name := "keyBitsOfAll", desc := "()I" } : Jvm.MethodName) prog_6_method_15_code (3 : Nat) (Option.some Jvm.ClassFile.FieldType.int)) ∈ tblG := tm_0 (tm_t (tm_4 (List.mem_of_getElem? (i := 111) rfl))) rfl
theorem tw_832 : (Jvm.Cond.methodLink "SettingsInLayers" (281 : Nat) ({ cls := "SettingsInLayers$Scene", name := "items", desc := "()I" } : Jvm.MethodName)) ∈ tblG := tm_0 (tm_t (tm_4 (List.mem_of_getElem? (i := 112) rfl))) rfl
theorem tw_833 : (Jvm.Cond.instanceMethod ({ cls := "SettingsInLayers$Scene", name := "items", desc := "()I" } : Jvm.MethodName)) ∈ tblG := tm_0 (tm_t (tm_4 (List.mem_of_getElem? (i := 113) rfl))) rfl
theorem tw_834 : (Jvm.Cond.selects "SettingsInLayers$Scene" ({ cls := "SettingsInLayers$Scene", name := "items", desc := "()I" } : Jvm.MethodName) ({ cls := "SettingsInLayers$Scene", name := "items", desc := "()I" } : Jvm.MethodName)) ∈ tblG := tm_0 (tm_t (tm_4 (List.mem_of_getElem? (i := 114) rfl))) rfl
theorem tw_835 : (Jvm.Cond.code ({ cls := "SettingsInLayers$Scene", name := "items", desc := "()I" } : Jvm.MethodName) prog_6_method_17_code (3 : Nat) (Option.some Jvm.ClassFile.FieldType.int)) ∈ tblG := tm_0 (tm_t (tm_4 (List.mem_of_getElem? (i := 115) rfl))) rfl
theorem tw_836 : (Jvm.Cond.classLink "SettingsInLayersLaw" (10 : Nat) "SettingsInLayersModel") ∈ tblG := tm_0 (tm_t (tm_4 (List.mem_of_getElem? (i := 116) rfl))) rfl
theorem tw_837 : (Jvm.Cond.instantiable "SettingsInLayersModel" (28 : Nat)) ∈ tblG := tm_0 (tm_t (tm_4 (List.mem_of_getElem? (i := 117) rfl))) rfl
theorem tw_838 : (Jvm.Cond.methodLink "SettingsInLayersLaw" (12 : Nat) ({ cls := "SettingsInLayersModel", name := "<init>", desc := "()V" } : Jvm.MethodName)) ∈ tblG := tm_0 (tm_t (tm_4 (List.mem_of_getElem? (i := 118) rfl))) rfl
theorem tw_839 : (Jvm.Cond.instanceMethod ({ cls := "SettingsInLayersModel", name := "<init>", desc := "()V" } : Jvm.MethodName)) ∈ tblG := tm_0 (tm_t (tm_4 (List.mem_of_getElem? (i := 119) rfl))) rfl
theorem tw_840 : (Jvm.Cond.code ({ cls := "SettingsInLayersModel", name := "<init>", desc := "()V" } : Jvm.MethodName) prog_10_method_1_code (2 : Nat) (Option.none : Option Jvm.ClassFile.FieldType)) ∈ tblG := tm_0 (tm_t (tm_4 (List.mem_of_getElem? (i := 120) rfl))) rfl
theorem tw_841 : (Jvm.Cond.methodLink "SettingsInLayersModel" (1 : Nat) ({ cls := "java/lang/Object", name := "<init>", desc := "()V" } : Jvm.MethodName)) ∈ tblG := tm_0 (tm_t (tm_4 (List.mem_of_getElem? (i := 121) rfl))) rfl
theorem tw_842 : (Jvm.Cond.fieldLink "SettingsInLayersModel" (9 : Nat) "SettingsInLayersModel" "now" "[I") ∈ tblG := tm_0 (tm_t (tm_4 (List.mem_of_getElem? (i := 122) rfl))) rfl
theorem tw_843 : (Jvm.Cond.fieldLink "SettingsInLayersModel" (13 : Nat) "SettingsInLayersModel" "image" "[I") ∈ tblG := tm_0 (tm_t (tm_4 (List.mem_of_getElem? (i := 123) rfl))) rfl
theorem tw_844 : (Jvm.Cond.fieldLink "SettingsInLayersModel" (16 : Nat) "SettingsInLayersModel" "mind" "[I") ∈ tblG := tm_0 (tm_t (tm_4 (List.mem_of_getElem? (i := 124) rfl))) rfl
theorem tw_845 : (Jvm.Cond.fieldLink "SettingsInLayersModel" (19 : Nat) "SettingsInLayersModel" "before" "[I") ∈ tblG := tm_0 (tm_t (tm_4 (List.mem_of_getElem? (i := 125) rfl))) rfl
theorem tw_846 : (Jvm.Cond.fieldLink "SettingsInLayersModel" (22 : Nat) "SettingsInLayersModel" "refused" "[I") ∈ tblG := tm_0 (tm_t (tm_4 (List.mem_of_getElem? (i := 126) rfl))) rfl
theorem tw_847 : (Jvm.Cond.fieldLink "SettingsInLayersModel" (25 : Nat) "SettingsInLayersModel" "tape" "[I") ∈ tblG := tm_0 (tm_t (tm_4 (List.mem_of_getElem? (i := 127) rfl))) rfl
theorem tw_848 : (Jvm.Cond.fieldLink "SettingsInLayersModel" (28 : Nat) "SettingsInLayersModel" "row" "[I") ∈ tblG := tm_0 (tm_t (tm_4 (List.mem_of_getElem? (i := 128) rfl))) rfl
theorem tw_849 : (Jvm.Cond.fieldLink "SettingsInLayersModel" (162 : Nat) "SettingsInLayersModel" "letters" "I") ∈ tblG := tm_0 (tm_t (tm_4 (List.mem_of_getElem? (i := 129) rfl))) rfl
theorem tw_850 : (Jvm.Cond.fieldLink "SettingsInLayersModel" (249 : Nat) "SettingsInLayersModel" "rows" "I") ∈ tblG := tm_0 (tm_t (tm_4 (List.mem_of_getElem? (i := 130) rfl))) rfl
theorem tw_851 : (Jvm.Cond.fieldLink "SettingsInLayersModel" (165 : Nat) "SettingsInLayersModel" "at" "I") ∈ tblG := tm_0 (tm_t (tm_4 (List.mem_of_getElem? (i := 131) rfl))) rfl
theorem tw_852 : (Jvm.Cond.fieldLink "SettingsInLayersModel" (168 : Nat) "SettingsInLayersModel" "fault" "I") ∈ tblG := tm_0 (tm_t (tm_4 (List.mem_of_getElem? (i := 132) rfl))) rfl
theorem tw_853 : (Jvm.Cond.fieldLink "SettingsInLayersModel" (258 : Nat) "SettingsInLayersModel" "z" "I") ∈ tblG := tm_0 (tm_t (tm_4 (List.mem_of_getElem? (i := 133) rfl))) rfl
theorem tw_854 : (Jvm.Cond.fieldLink "SettingsInLayersModel" (230 : Nat) "SettingsInLayersModel" "isKept" "Z") ∈ tblG := tm_0 (tm_t (tm_4 (List.mem_of_getElem? (i := 134) rfl))) rfl
theorem tw_855 : (Jvm.Cond.fieldLink "SettingsInLayersModel" (31 : Nat) "SettingsInLayersModel" "type" "[I") ∈ tblG := tm_0 (tm_t (tm_4 (List.mem_of_getElem? (i := 135) rfl))) rfl
theorem tw_856 : (Jvm.Cond.fieldLink "SettingsInLayersModel" (34 : Nat) "SettingsInLayersModel" "number" "[I") ∈ tblG := tm_0 (tm_t (tm_4 (List.mem_of_getElem? (i := 136) rfl))) rfl
theorem tw_857 : (Jvm.Cond.fieldLink "SettingsInLayersModel" (37 : Nat) "SettingsInLayersModel" "many" "[I") ∈ tblG := tm_0 (tm_t (tm_4 (List.mem_of_getElem? (i := 137) rfl))) rfl
theorem tw_858 : (Jvm.Cond.fieldLink "SettingsInLayersModel" (40 : Nat) "SettingsInLayersModel" "sources" "[I") ∈ tblG := tm_0 (tm_t (tm_4 (List.mem_of_getElem? (i := 138) rfl))) rfl
theorem tw_859 : (Jvm.Cond.fieldLink "SettingsInLayersModel" (43 : Nat) "SettingsInLayersModel" "deep" "[I") ∈ tblG := tm_0 (tm_t (tm_4 (List.mem_of_getElem? (i := 139) rfl))) rfl
theorem tw_860 : (Jvm.Cond.fieldLink "SettingsInLayersModel" (46 : Nat) "SettingsInLayersModel" "itemKey" "[I") ∈ tblG := tm_0 (tm_t (tm_4 (List.mem_of_getElem? (i := 140) rfl))) rfl
theorem tw_861 : (Jvm.Cond.fieldLink "SettingsInLayersModel" (49 : Nat) "SettingsInLayersModel" "itemNumber" "[I") ∈ tblG := tm_0 (tm_t (tm_4 (List.mem_of_getElem? (i := 141) rfl))) rfl
theorem tw_862 : (Jvm.Cond.fieldLink "SettingsInLayersModel" (52 : Nat) "SettingsInLayersModel" "itemLayer" "[I") ∈ tblG := tm_0 (tm_t (tm_4 (List.mem_of_getElem? (i := 142) rfl))) rfl
theorem tw_863 : (Jvm.Cond.fieldLink "SettingsInLayersModel" (55 : Nat) "SettingsInLayersModel" "isOpen" "[Z") ∈ tblG := tm_0 (tm_t (tm_4 (List.mem_of_getElem? (i := 143) rfl))) rfl
theorem tw_864 : (Jvm.Cond.fieldLink "SettingsInLayersModel" (59 : Nat) "SettingsInLayersModel" "faultCode" "[I") ∈ tblG := tm_0 (tm_t (tm_4 (List.mem_of_getElem? (i := 144) rfl))) rfl
theorem tw_865 : (Jvm.Cond.fieldLink "SettingsInLayersModel" (62 : Nat) "SettingsInLayersModel" "faultKey" "[I") ∈ tblG := tm_0 (tm_t (tm_4 (List.mem_of_getElem? (i := 145) rfl))) rfl
theorem tw_866 : (Jvm.Cond.fieldLink "SettingsInLayersModel" (98 : Nat) "SettingsInLayersModel" "faults" "I") ∈ tblG := tm_0 (tm_t (tm_4 (List.mem_of_getElem? (i := 146) rfl))) rfl
theorem tw_867 : (Jvm.Cond.fieldLink "SettingsInLayersModel" (102 : Nat) "SettingsInLayersModel" "resolved" "I") ∈ tblG := tm_0 (tm_t (tm_4 (List.mem_of_getElem? (i := 147) rfl))) rfl
theorem tw_868 : (Jvm.Cond.fieldLink "SettingsInLayersModel" (105 : Nat) "SettingsInLayersModel" "used" "I") ∈ tblG := tm_0 (tm_t (tm_4 (List.mem_of_getElem? (i := 148) rfl))) rfl
theorem tw_869 : (Jvm.Cond.fieldLink "SettingsInLayersModel" (65 : Nat) "SettingsInLayersModel" "was" "[I") ∈ tblG := tm_0 (tm_t (tm_4 (List.mem_of_getElem? (i := 149) rfl))) rfl
theorem tw_927 : (Jvm.Cond.arrayClass Jvm.ClassFile.FieldType.boolean) ∈ tblG := tm_0 (tm_t (tm_4 (List.mem_of_getElem? (i := 207) rfl))) rfl
theorem tw_928 : (Jvm.Cond.methodLink "SettingsInLayersLaw" (26 : Nat) ({ cls := "SettingsInLayersModel", name := "turns", desc := "(I)I" } : Jvm.MethodName)) ∈ tblG := tm_0 (tm_t (tm_4 (List.mem_of_getElem? (i := 208) rfl))) rfl
theorem tw_929 : (Jvm.Cond.instanceMethod ({ cls := "SettingsInLayersModel", name := "turns", desc := "(I)I" } : Jvm.MethodName)) ∈ tblG := tm_0 (tm_t (tm_4 (List.mem_of_getElem? (i := 209) rfl))) rfl
theorem tw_930 : (Jvm.Cond.selects "SettingsInLayersModel" ({ cls := "SettingsInLayersModel", name := "turns", desc := "(I)I" } : Jvm.MethodName) ({ cls := "SettingsInLayersModel", name := "turns", desc := "(I)I" } : Jvm.MethodName)) ∈ tblG := tm_0 (tm_t (tm_4 (List.mem_of_getElem? (i := 210) rfl))) rfl
theorem tw_931 : (Jvm.Cond.code ({ cls := "SettingsInLayersModel", name := "turns", desc := "(I)I" } : Jvm.MethodName) prog_10_method_26_code (2 : Nat) (Option.some Jvm.ClassFile.FieldType.int)) ∈ tblG := tm_0 (tm_t (tm_4 (List.mem_of_getElem? (i := 211) rfl))) rfl
theorem tw_932 : (Jvm.Cond.methodLink "SettingsInLayersModel" (138 : Nat) ({ cls := "SettingsInLayersModel", name := "isLayer", desc := "(I)Z" } : Jvm.MethodName)) ∈ tblG := tm_0 (tm_t (tm_4 (List.mem_of_getElem? (i := 212) rfl))) rfl
theorem tw_933 : (Jvm.Cond.static ({ cls := "SettingsInLayersModel", name := "isLayer", desc := "(I)Z" } : Jvm.MethodName)) ∈ tblG := tm_0 (tm_t (tm_4 (List.mem_of_getElem? (i := 213) rfl))) rfl
theorem tw_934 : (Jvm.Cond.code ({ cls := "SettingsInLayersModel", name := "isLayer", desc := "(I)Z" } : Jvm.MethodName) prog_10_method_5_code (1 : Nat) (Option.some Jvm.ClassFile.FieldType.boolean)) ∈ tblG := tm_0 (tm_t (tm_4 (List.mem_of_getElem? (i := 214) rfl))) rfl
theorem tw_935 : (Jvm.Cond.methodLink "SettingsInLayersModel" (74 : Nat) ({ cls := "SettingsInLayersModel", name := "isIn", desc := "(III)Z" } : Jvm.MethodName)) ∈ tblG := tm_0 (tm_t (tm_4 (List.mem_of_getElem? (i := 215) rfl))) rfl
theorem tw_936 : (Jvm.Cond.static ({ cls := "SettingsInLayersModel", name := "isIn", desc := "(III)Z" } : Jvm.MethodName)) ∈ tblG := tm_0 (tm_t (tm_4 (List.mem_of_getElem? (i := 216) rfl))) rfl
theorem tw_937 : (Jvm.Cond.code ({ cls := "SettingsInLayersModel", name := "isIn", desc := "(III)Z" } : Jvm.MethodName) prog_10_method_4_code (3 : Nat) (Option.some Jvm.ClassFile.FieldType.boolean)) ∈ tblG := tm_0 (tm_t (tm_4 (List.mem_of_getElem? (i := 217) rfl))) rfl
theorem tw_938 : (Jvm.Cond.methodLink "SettingsInLayersModel" (70 : Nat) ({ cls := "SettingsInLayersModel", name := "no", desc := "(I)I" } : Jvm.MethodName)) ∈ tblG := tm_0 (tm_t (tm_4 (List.mem_of_getElem? (i := 218) rfl))) rfl
theorem tw_940 : (Jvm.Cond.instanceMethod ({ cls := "SettingsInLayersModel", name := "no", desc := "(I)I" } : Jvm.MethodName)) ∈ tblG := tm_0 (tm_t (tm_4 (List.mem_of_getElem? (i := 220) rfl))) rfl
theorem tw_941 : (Jvm.Cond.code ({ cls := "SettingsInLayersModel", name := "no", desc := "(I)I" } : Jvm.MethodName) prog_10_method_2_code (2 : Nat) (Option.some Jvm.ClassFile.FieldType.int)) ∈ tblG := tm_0 (tm_t (tm_4 (List.mem_of_getElem? (i := 221) rfl))) rfl
theorem tw_942 : (Jvm.Cond.methodLink "SettingsInLayersLaw" (31 : Nat) ({ cls := "SettingsInLayersModel", name := "kind", desc := "(III)I" } : Jvm.MethodName)) ∈ tblG := tm_0 (tm_t (tm_4 (List.mem_of_getElem? (i := 222) rfl))) rfl
theorem tw_943 : (Jvm.Cond.instanceMethod ({ cls := "SettingsInLayersModel", name := "kind", desc := "(III)I" } : Jvm.MethodName)) ∈ tblG := tm_0 (tm_t (tm_4 (List.mem_of_getElem? (i := 223) rfl))) rfl
theorem tw_944 : (Jvm.Cond.selects "SettingsInLayersModel" ({ cls := "SettingsInLayersModel", name := "kind", desc := "(III)I" } : Jvm.MethodName) ({ cls := "SettingsInLayersModel", name := "kind", desc := "(III)I" } : Jvm.MethodName)) ∈ tblG := tm_0 (tm_t (tm_4 (List.mem_of_getElem? (i := 224) rfl))) rfl
theorem tw_945 : (Jvm.Cond.code ({ cls := "SettingsInLayersModel", name := "kind", desc := "(III)I" } : Jvm.MethodName) prog_10_method_27_code (5 : Nat) (Option.some Jvm.ClassFile.FieldType.int)) ∈ tblG := tm_0 (tm_t (tm_4 (List.mem_of_getElem? (i := 225) rfl))) rfl
theorem tw_946 : (Jvm.Cond.methodLink "SettingsInLayersLaw" (36 : Nat) ({ cls := "SettingsInLayersModel", name := "manner", desc := "(II)I" } : Jvm.MethodName)) ∈ tblG := tm_0 (tm_t (tm_4 (List.mem_of_getElem? (i := 226) rfl))) rfl
theorem tw_947 : (Jvm.Cond.instanceMethod ({ cls := "SettingsInLayersModel", name := "manner", desc := "(II)I" } : Jvm.MethodName)) ∈ tblG := tm_0 (tm_t (tm_4 (List.mem_of_getElem? (i := 227) rfl))) rfl
theorem tw_948 : (Jvm.Cond.selects "SettingsInLayersModel" ({ cls := "SettingsInLayersModel", name := "manner", desc := "(II)I" } : Jvm.MethodName) ({ cls := "SettingsInLayersModel", name := "manner", desc := "(II)I" } : Jvm.MethodName)) ∈ tblG := tm_0 (tm_t (tm_4 (List.mem_of_getElem? (i := 228) rfl))) rfl
theorem tw_949 : (Jvm.Cond.code ({ cls := "SettingsInLayersModel", name := "manner", desc := "(II)I" } : Jvm.MethodName) prog_10_method_28_code (4 : Nat) (Option.some Jvm.ClassFile.FieldType.int)) ∈ tblG := tm_0 (tm_t (tm_4 (List.mem_of_getElem? (i := 229) rfl))) rfl
theorem tw_950 : (Jvm.Cond.methodLink "SettingsInLayersModel" (141 : Nat) ({ cls := "SettingsInLayersModel", name := "isKey", desc := "(I)Z" } : Jvm.MethodName)) ∈ tblG := tm_0 (tm_t (tm_4 (List.mem_of_getElem? (i := 230) rfl))) rfl
theorem tw_951 : (Jvm.Cond.static ({ cls := "SettingsInLayersModel", name := "isKey", desc := "(I)Z" } : Jvm.MethodName)) ∈ tblG := tm_0 (tm_t (tm_4 (List.mem_of_getElem? (i := 231) rfl))) rfl
theorem tw_952 : (Jvm.Cond.code ({ cls := "SettingsInLayersModel", name := "isKey", desc := "(I)Z" } : Jvm.MethodName) prog_10_method_6_code (1 : Nat) (Option.some Jvm.ClassFile.FieldType.boolean)) ∈ tblG := tm_0 (tm_t (tm_4 (List.mem_of_getElem? (i := 232) rfl))) rfl
theorem tw_953 : (Jvm.Cond.methodLink "SettingsInLayersLaw" (40 : Nat) ({ cls := "SettingsInLayersModel", name := "sets", desc := "(III)I" } : Jvm.MethodName)) ∈ tblG := tm_0 (tm_t (tm_4 (List.mem_of_getElem? (i := 233) rfl))) rfl
theorem tw_954 : (Jvm.Cond.instanceMethod ({ cls := "SettingsInLayersModel", name := "sets", desc := "(III)I" } : Jvm.MethodName)) ∈ tblG := tm_0 (tm_t (tm_4 (List.mem_of_getElem? (i := 234) rfl))) rfl
theorem tw_955 : (Jvm.Cond.selects "SettingsInLayersModel" ({ cls := "SettingsInLayersModel", name := "sets", desc := "(III)I" } : Jvm.MethodName) ({ cls := "SettingsInLayersModel", name := "sets", desc := "(III)I" } : Jvm.MethodName)) ∈ tblG := tm_0 (tm_t (tm_4 (List.mem_of_getElem? (i := 235) rfl))) rfl
theorem tw_956 : (Jvm.Cond.code ({ cls := "SettingsInLayersModel", name := "sets", desc := "(III)I" } : Jvm.MethodName) prog_10_method_29_code (4 : Nat) (Option.some Jvm.ClassFile.FieldType.int)) ∈ tblG := tm_0 (tm_t (tm_4 (List.mem_of_getElem? (i := 236) rfl))) rfl
theorem tw_957 : (Jvm.Cond.methodLink "SettingsInLayersModel" (144 : Nat) ({ cls := "SettingsInLayersModel", name := "tell", desc := "(IIIII)I" } : Jvm.MethodName)) ∈ tblG := tm_0 (tm_t (tm_4 (List.mem_of_getElem? (i := 237) rfl))) rfl
theorem tw_959 : (Jvm.Cond.instanceMethod ({ cls := "SettingsInLayersModel", name := "tell", desc := "(IIIII)I" } : Jvm.MethodName)) ∈ tblG := tm_0 (tm_t (tm_4 (List.mem_of_getElem? (i := 239) rfl))) rfl
theorem tw_960 : (Jvm.Cond.code ({ cls := "SettingsInLayersModel", name := "tell", desc := "(IIIII)I" } : Jvm.MethodName) prog_10_method_23_code (9 : Nat) (Option.some Jvm.ClassFile.FieldType.int)) ∈ tblG := tm_0 (tm_t (tm_5 (List.mem_of_getElem? (i := 0) rfl))) rfl
theorem tw_961 : (Jvm.Cond.methodLink "SettingsInLayersModel" (78 : Nat) ({ cls := "SettingsInLayersModel", name := "entryAt", desc := "(II)I" } : Jvm.MethodName)) ∈ tblG := tm_0 (tm_t (tm_5 (List.mem_of_getElem? (i := 1) rfl))) rfl
theorem tw_962 : (Jvm.Cond.static ({ cls := "SettingsInLayersModel", name := "entryAt", desc := "(II)I" } : Jvm.MethodName)) ∈ tblG := tm_0 (tm_t (tm_5 (List.mem_of_getElem? (i := 2) rfl))) rfl
theorem tw_963 : (Jvm.Cond.code ({ cls := "SettingsInLayersModel", name := "entryAt", desc := "(II)I" } : Jvm.MethodName) prog_10_method_8_code (2 : Nat) (Option.some Jvm.ClassFile.FieldType.int)) ∈ tblG := tm_0 (tm_t (tm_5 (List.mem_of_getElem? (i := 3) rfl))) rfl
theorem tw_964 : (Jvm.Cond.methodLink "SettingsInLayersLaw" (45 : Nat) ({ cls := "SettingsInLayersModel", name := "adds", desc := "(IIII)I" } : Jvm.MethodName)) ∈ tblG := tm_0 (tm_t (tm_5 (List.mem_of_getElem? (i := 4) rfl))) rfl
theorem tw_965 : (Jvm.Cond.instanceMethod ({ cls := "SettingsInLayersModel", name := "adds", desc := "(IIII)I" } : Jvm.MethodName)) ∈ tblG := tm_0 (tm_t (tm_5 (List.mem_of_getElem? (i := 5) rfl))) rfl
theorem tw_966 : (Jvm.Cond.selects "SettingsInLayersModel" ({ cls := "SettingsInLayersModel", name := "adds", desc := "(IIII)I" } : Jvm.MethodName) ({ cls := "SettingsInLayersModel", name := "adds", desc := "(IIII)I" } : Jvm.MethodName)) ∈ tblG := tm_0 (tm_t (tm_5 (List.mem_of_getElem? (i := 6) rfl))) rfl
theorem tw_967 : (Jvm.Cond.code ({ cls := "SettingsInLayersModel", name := "adds", desc := "(IIII)I" } : Jvm.MethodName) prog_10_method_30_code (6 : Nat) (Option.some Jvm.ClassFile.FieldType.int)) ∈ tblG := tm_0 (tm_t (tm_5 (List.mem_of_getElem? (i := 7) rfl))) rfl
theorem tw_968 : (Jvm.Cond.methodLink "SettingsInLayersModel" (85 : Nat) ({ cls := "SettingsInLayersModel", name := "has", desc := "(II)Z" } : Jvm.MethodName)) ∈ tblG := tm_0 (tm_t (tm_5 (List.mem_of_getElem? (i := 8) rfl))) rfl
theorem tw_970 : (Jvm.Cond.instanceMethod ({ cls := "SettingsInLayersModel", name := "has", desc := "(II)Z" } : Jvm.MethodName)) ∈ tblG := tm_0 (tm_t (tm_5 (List.mem_of_getElem? (i := 10) rfl))) rfl
theorem tw_971 : (Jvm.Cond.code ({ cls := "SettingsInLayersModel", name := "has", desc := "(II)Z" } : Jvm.MethodName) prog_10_method_9_code (3 : Nat) (Option.some Jvm.ClassFile.FieldType.boolean)) ∈ tblG := tm_0 (tm_t (tm_5 (List.mem_of_getElem? (i := 11) rfl))) rfl
theorem tw_972 : (Jvm.Cond.methodLink "SettingsInLayersModel" (148 : Nat) ({ cls := "SettingsInLayersModel", name := "find", desc := "(III)I" } : Jvm.MethodName)) ∈ tblG := tm_0 (tm_t (tm_5 (List.mem_of_getElem? (i := 12) rfl))) rfl
theorem tw_974 : (Jvm.Cond.instanceMethod ({ cls := "SettingsInLayersModel", name := "find", desc := "(III)I" } : Jvm.MethodName)) ∈ tblG := tm_0 (tm_t (tm_5 (List.mem_of_getElem? (i := 14) rfl))) rfl
theorem tw_975 : (Jvm.Cond.code ({ cls := "SettingsInLayersModel", name := "find", desc := "(III)I" } : Jvm.MethodName) prog_10_method_24_code (6 : Nat) (Option.some Jvm.ClassFile.FieldType.int)) ∈ tblG := tm_0 (tm_t (tm_5 (List.mem_of_getElem? (i := 15) rfl))) rfl
theorem tw_976 : (Jvm.Cond.methodLink "SettingsInLayersModel" (152 : Nat) ({ cls := "SettingsInLayersModel", name := "puts", desc := "(IIII)V" } : Jvm.MethodName)) ∈ tblG := tm_0 (tm_t (tm_5 (List.mem_of_getElem? (i := 16) rfl))) rfl
theorem tw_978 : (Jvm.Cond.instanceMethod ({ cls := "SettingsInLayersModel", name := "puts", desc := "(IIII)V" } : Jvm.MethodName)) ∈ tblG := tm_0 (tm_t (tm_5 (List.mem_of_getElem? (i := 18) rfl))) rfl
theorem tw_979 : (Jvm.Cond.code ({ cls := "SettingsInLayersModel", name := "puts", desc := "(IIII)V" } : Jvm.MethodName) prog_10_method_25_code (6 : Nat) (Option.none : Option Jvm.ClassFile.FieldType)) ∈ tblG := tm_0 (tm_t (tm_5 (List.mem_of_getElem? (i := 19) rfl))) rfl
theorem tw_980 : (Jvm.Cond.methodLink "SettingsInLayersLaw" (49 : Nat) ({ cls := "SettingsInLayersModel", name := "refers", desc := "(IIII)I" } : Jvm.MethodName)) ∈ tblG := tm_0 (tm_t (tm_5 (List.mem_of_getElem? (i := 20) rfl))) rfl
theorem tw_981 : (Jvm.Cond.instanceMethod ({ cls := "SettingsInLayersModel", name := "refers", desc := "(IIII)I" } : Jvm.MethodName)) ∈ tblG := tm_0 (tm_t (tm_5 (List.mem_of_getElem? (i := 21) rfl))) rfl
theorem tw_982 : (Jvm.Cond.selects "SettingsInLayersModel" ({ cls := "SettingsInLayersModel", name := "refers", desc := "(IIII)I" } : Jvm.MethodName) ({ cls := "SettingsInLayersModel", name := "refers", desc := "(IIII)I" } : Jvm.MethodName)) ∈ tblG := tm_0 (tm_t (tm_5 (List.mem_of_getElem? (i := 22) rfl))) rfl
theorem tw_983 : (Jvm.Cond.code ({ cls := "SettingsInLayersModel", name := "refers", desc := "(IIII)I" } : Jvm.MethodName) prog_10_method_31_code (5 : Nat) (Option.some Jvm.ClassFile.FieldType.int)) ∈ tblG := tm_0 (tm_t (tm_5 (List.mem_of_getElem? (i := 23) rfl))) rfl
theorem tw_984 : (Jvm.Cond.methodLink "SettingsInLayersModel" (120 : Nat) ({ cls := "java/lang/Math", name := "max", desc := "(II)I" } : Jvm.MethodName)) ∈ tblG := tm_0 (tm_t (tm_5 (List.mem_of_getElem? (i := 24) rfl))) rfl
theorem tw_985 : (Jvm.Cond.methodLink "SettingsInLayersLaw" (53 : Nat) ({ cls := "SettingsInLayersModel", name := "gap", desc := "(II)I" } : Jvm.MethodName)) ∈ tblG := tm_0 (tm_t (tm_5 (List.mem_of_getElem? (i := 25) rfl))) rfl
theorem tw_986 : (Jvm.Cond.instanceMethod ({ cls := "SettingsInLayersModel", name := "gap", desc := "(II)I" } : Jvm.MethodName)) ∈ tblG := tm_0 (tm_t (tm_5 (List.mem_of_getElem? (i := 26) rfl))) rfl
theorem tw_987 : (Jvm.Cond.selects "SettingsInLayersModel" ({ cls := "SettingsInLayersModel", name := "gap", desc := "(II)I" } : Jvm.MethodName) ({ cls := "SettingsInLayersModel", name := "gap", desc := "(II)I" } : Jvm.MethodName)) ∈ tblG := tm_0 (tm_t (tm_5 (List.mem_of_getElem? (i := 27) rfl))) rfl
theorem tw_988 : (Jvm.Cond.code ({ cls := "SettingsInLayersModel", name := "gap", desc := "(II)I" } : Jvm.MethodName) prog_10_method_32_code (3 : Nat) (Option.some Jvm.ClassFile.FieldType.int)) ∈ tblG := tm_0 (tm_t (tm_5 (List.mem_of_getElem? (i := 28) rfl))) rfl
theorem tw_989 : (Jvm.Cond.methodLink "SettingsInLayersLaw" (57 : Nat) ({ cls := "SettingsInLayersModel", name := "drops", desc := "(II)I" } : Jvm.MethodName)) ∈ tblG := tm_0 (tm_t (tm_5 (List.mem_of_getElem? (i := 29) rfl))) rfl
theorem tw_990 : (Jvm.Cond.instanceMethod ({ cls := "SettingsInLayersModel", name := "drops", desc := "(II)I" } : Jvm.MethodName)) ∈ tblG := tm_0 (tm_t (tm_5 (List.mem_of_getElem? (i := 30) rfl))) rfl
theorem tw_991 : (Jvm.Cond.selects "SettingsInLayersModel" ({ cls := "SettingsInLayersModel", name := "drops", desc := "(II)I" } : Jvm.MethodName) ({ cls := "SettingsInLayersModel", name := "drops", desc := "(II)I" } : Jvm.MethodName)) ∈ tblG := tm_0 (tm_t (tm_5 (List.mem_of_getElem? (i := 31) rfl))) rfl
theorem tw_992 : (Jvm.Cond.code ({ cls := "SettingsInLayersModel", name := "drops", desc := "(II)I" } : Jvm.MethodName) prog_10_method_35_code (3 : Nat) (Option.some Jvm.ClassFile.FieldType.int)) ∈ tblG := tm_0 (tm_t (tm_5 (List.mem_of_getElem? (i := 32) rfl))) rfl
theorem tw_993 : (Jvm.Cond.methodLink "SettingsInLayersModel" (156 : Nat) ({ cls := "SettingsInLayersModel", name := "entries", desc := "(I)I" } : Jvm.MethodName)) ∈ tblG := tm_0 (tm_t (tm_5 (List.mem_of_getElem? (i := 33) rfl))) rfl
theorem tw_995 : (Jvm.Cond.instanceMethod ({ cls := "SettingsInLayersModel", name := "entries", desc := "(I)I" } : Jvm.MethodName)) ∈ tblG := tm_0 (tm_t (tm_5 (List.mem_of_getElem? (i := 35) rfl))) rfl
theorem tw_996 : (Jvm.Cond.code ({ cls := "SettingsInLayersModel", name := "entries", desc := "(I)I" } : Jvm.MethodName) prog_10_method_33_code (4 : Nat) (Option.some Jvm.ClassFile.FieldType.int)) ∈ tblG := tm_0 (tm_t (tm_5 (List.mem_of_getElem? (i := 36) rfl))) rfl
theorem tw_997 : (Jvm.Cond.methodLink "SettingsInLayersModel" (159 : Nat) ({ cls := "SettingsInLayersModel", name := "ones", desc := "(I)I" } : Jvm.MethodName)) ∈ tblG := tm_0 (tm_t (tm_5 (List.mem_of_getElem? (i := 37) rfl))) rfl
theorem tw_998 : (Jvm.Cond.static ({ cls := "SettingsInLayersModel", name := "ones", desc := "(I)I" } : Jvm.MethodName)) ∈ tblG := tm_0 (tm_t (tm_5 (List.mem_of_getElem? (i := 38) rfl))) rfl
theorem tw_999 : (Jvm.Cond.code ({ cls := "SettingsInLayersModel", name := "ones", desc := "(I)I" } : Jvm.MethodName) prog_10_method_34_code (3 : Nat) (Option.some Jvm.ClassFile.FieldType.int)) ∈ tblG := tm_0 (tm_t (tm_5 (List.mem_of_getElem? (i := 39) rfl))) rfl
theorem tw_1000 : (Jvm.Cond.methodLink "SettingsInLayersLaw" (17 : Nat) ({ cls := "SettingsInLayersModel", name := "letter", desc := "(I)I" } : Jvm.MethodName)) ∈ tblG := tm_0 (tm_t (tm_5 (List.mem_of_getElem? (i := 40) rfl))) rfl
theorem tw_1001 : (Jvm.Cond.instanceMethod ({ cls := "SettingsInLayersModel", name := "letter", desc := "(I)I" } : Jvm.MethodName)) ∈ tblG := tm_0 (tm_t (tm_5 (List.mem_of_getElem? (i := 41) rfl))) rfl
theorem tw_1002 : (Jvm.Cond.selects "SettingsInLayersModel" ({ cls := "SettingsInLayersModel", name := "letter", desc := "(I)I" } : Jvm.MethodName) ({ cls := "SettingsInLayersModel", name := "letter", desc := "(I)I" } : Jvm.MethodName)) ∈ tblG := tm_0 (tm_t (tm_5 (List.mem_of_getElem? (i := 42) rfl))) rfl
theorem tw_1003 : (Jvm.Cond.code ({ cls := "SettingsInLayersModel", name := "letter", desc := "(I)I" } : Jvm.MethodName) prog_10_method_36_code (2 : Nat) (Option.some Jvm.ClassFile.FieldType.int)) ∈ tblG := tm_0 (tm_t (tm_5 (List.mem_of_getElem? (i := 43) rfl))) rfl
theorem tw_1004 : (Jvm.Cond.methodLink "SettingsInLayersLaw" (22 : Nat) ({ cls := "SettingsInLayersModel", name := "settings", desc := "()I" } : Jvm.MethodName)) ∈ tblG := tm_0 (tm_t (tm_5 (List.mem_of_getElem? (i := 44) rfl))) rfl
theorem tw_1005 : (Jvm.Cond.instanceMethod ({ cls := "SettingsInLayersModel", name := "settings", desc := "()I" } : Jvm.MethodName)) ∈ tblG := tm_0 (tm_t (tm_5 (List.mem_of_getElem? (i := 45) rfl))) rfl
theorem tw_1006 : (Jvm.Cond.selects "SettingsInLayersModel" ({ cls := "SettingsInLayersModel", name := "settings", desc := "()I" } : Jvm.MethodName) ({ cls := "SettingsInLayersModel", name := "settings", desc := "()I" } : Jvm.MethodName)) ∈ tblG := tm_0 (tm_t (tm_5 (List.mem_of_getElem? (i := 46) rfl))) rfl
theorem tw_1007 : (Jvm.Cond.code ({ cls := "SettingsInLayersModel", name := "settings", desc := "()I" } : Jvm.MethodName) prog_10_method_43_code (3 : Nat) (Option.some Jvm.ClassFile.FieldType.int)) ∈ tblG := tm_0 (tm_t (tm_5 (List.mem_of_getElem? (i := 47) rfl))) rfl
theorem tw_1008 : (Jvm.Cond.methodLink "SettingsInLayersModel" (187 : Nat) ({ cls := "SettingsInLayersModel", name := "statement", desc := "(Z)Z" } : Jvm.MethodName)) ∈ tblG := tm_0 (tm_t (tm_5 (List.mem_of_getElem? (i := 48) rfl))) rfl
theorem tw_1010 : (Jvm.Cond.instanceMethod ({ cls := "SettingsInLayersModel", name := "statement", desc := "(Z)Z" } : Jvm.MethodName)) ∈ tblG := tm_0 (tm_t (tm_5 (List.mem_of_getElem? (i := 50) rfl))) rfl
theorem tw_1011 : (Jvm.Cond.code ({ cls := "SettingsInLayersModel", name := "statement", desc := "(Z)Z" } : Jvm.MethodName) prog_10_method_42_code (7 : Nat) (Option.some Jvm.ClassFile.FieldType.boolean)) ∈ tblG := tm_0 (tm_t (tm_5 (List.mem_of_getElem? (i := 51) rfl))) rfl
theorem tw_1012 : (Jvm.Cond.methodLink "SettingsInLayersModel" (176 : Nat) ({ cls := "SettingsInLayersModel", name := "digit", desc := "()I" } : Jvm.MethodName)) ∈ tblG := tm_0 (tm_t (tm_5 (List.mem_of_getElem? (i := 52) rfl))) rfl
theorem tw_1014 : (Jvm.Cond.instanceMethod ({ cls := "SettingsInLayersModel", name := "digit", desc := "()I" } : Jvm.MethodName)) ∈ tblG := tm_0 (tm_t (tm_5 (List.mem_of_getElem? (i := 54) rfl))) rfl
theorem tw_1015 : (Jvm.Cond.code ({ cls := "SettingsInLayersModel", name := "digit", desc := "()I" } : Jvm.MethodName) prog_10_method_39_code (1 : Nat) (Option.some Jvm.ClassFile.FieldType.int)) ∈ tblG := tm_0 (tm_t (tm_5 (List.mem_of_getElem? (i := 55) rfl))) rfl
theorem tw_1016 : (Jvm.Cond.methodLink "SettingsInLayersModel" (174 : Nat) ({ cls := "SettingsInLayersModel", name := "takes", desc := "(II)I" } : Jvm.MethodName)) ∈ tblG := tm_0 (tm_t (tm_5 (List.mem_of_getElem? (i := 56) rfl))) rfl
theorem tw_1018 : (Jvm.Cond.instanceMethod ({ cls := "SettingsInLayersModel", name := "takes", desc := "(II)I" } : Jvm.MethodName)) ∈ tblG := tm_0 (tm_t (tm_5 (List.mem_of_getElem? (i := 58) rfl))) rfl
theorem tw_1019 : (Jvm.Cond.code ({ cls := "SettingsInLayersModel", name := "takes", desc := "(II)I" } : Jvm.MethodName) prog_10_method_38_code (3 : Nat) (Option.some Jvm.ClassFile.FieldType.int)) ∈ tblG := tm_0 (tm_t (tm_5 (List.mem_of_getElem? (i := 59) rfl))) rfl
theorem tw_1020 : (Jvm.Cond.methodLink "SettingsInLayersModel" (171 : Nat) ({ cls := "SettingsInLayersModel", name := "isAt", desc := "(II)Z" } : Jvm.MethodName)) ∈ tblG := tm_0 (tm_t (tm_5 (List.mem_of_getElem? (i := 60) rfl))) rfl
theorem tw_1022 : (Jvm.Cond.instanceMethod ({ cls := "SettingsInLayersModel", name := "isAt", desc := "(II)Z" } : Jvm.MethodName)) ∈ tblG := tm_0 (tm_t (tm_5 (List.mem_of_getElem? (i := 62) rfl))) rfl
theorem tw_1023 : (Jvm.Cond.code ({ cls := "SettingsInLayersModel", name := "isAt", desc := "(II)Z" } : Jvm.MethodName) prog_10_method_37_code (3 : Nat) (Option.some Jvm.ClassFile.FieldType.boolean)) ∈ tblG := tm_0 (tm_t (tm_5 (List.mem_of_getElem? (i := 63) rfl))) rfl
theorem tw_1024 : (Jvm.Cond.methodLink "SettingsInLayersModel" (183 : Nat) ({ cls := "SettingsInLayersModel", name := "entry", desc := "(IIZ)Z" } : Jvm.MethodName)) ∈ tblG := tm_0 (tm_t (tm_5 (List.mem_of_getElem? (i := 64) rfl))) rfl
theorem tw_1026 : (Jvm.Cond.instanceMethod ({ cls := "SettingsInLayersModel", name := "entry", desc := "(IIZ)Z" } : Jvm.MethodName)) ∈ tblG := tm_0 (tm_t (tm_5 (List.mem_of_getElem? (i := 66) rfl))) rfl
theorem tw_1027 : (Jvm.Cond.code ({ cls := "SettingsInLayersModel", name := "entry", desc := "(IIZ)Z" } : Jvm.MethodName) prog_10_method_41_code (10 : Nat) (Option.some Jvm.ClassFile.FieldType.boolean)) ∈ tblG := tm_0 (tm_t (tm_5 (List.mem_of_getElem? (i := 67) rfl))) rfl
theorem tw_1028 : (Jvm.Cond.methodLink "SettingsInLayersModel" (180 : Nat) ({ cls := "SettingsInLayersModel", name := "twoDigits", desc := "()I" } : Jvm.MethodName)) ∈ tblG := tm_0 (tm_t (tm_5 (List.mem_of_getElem? (i := 68) rfl))) rfl
theorem tw_1030 : (Jvm.Cond.instanceMethod ({ cls := "SettingsInLayersModel", name := "twoDigits", desc := "()I" } : Jvm.MethodName)) ∈ tblG := tm_0 (tm_t (tm_5 (List.mem_of_getElem? (i := 70) rfl))) rfl
theorem tw_1031 : (Jvm.Cond.code ({ cls := "SettingsInLayersModel", name := "twoDigits", desc := "()I" } : Jvm.MethodName) prog_10_method_40_code (2 : Nat) (Option.some Jvm.ClassFile.FieldType.int)) ∈ tblG := tm_0 (tm_t (tm_5 (List.mem_of_getElem? (i := 71) rfl))) rfl
theorem tw_1032 : (Jvm.Cond.methodLink "SettingsInLayersModel" (191 : Nat) ({ cls := "SettingsInLayersModel", name := "copies", desc := "([I[I)V" } : Jvm.MethodName)) ∈ tblG := tm_0 (tm_t (tm_5 (List.mem_of_getElem? (i := 72) rfl))) rfl
theorem tw_1033 : (Jvm.Cond.static ({ cls := "SettingsInLayersModel", name := "copies", desc := "([I[I)V" } : Jvm.MethodName)) ∈ tblG := tm_0 (tm_t (tm_5 (List.mem_of_getElem? (i := 73) rfl))) rfl
theorem tw_1034 : (Jvm.Cond.code ({ cls := "SettingsInLayersModel", name := "copies", desc := "([I[I)V" } : Jvm.MethodName) prog_10_method_7_code (3 : Nat) (Option.none : Option Jvm.ClassFile.FieldType)) ∈ tblG := tm_0 (tm_t (tm_5 (List.mem_of_getElem? (i := 74) rfl))) rfl
theorem tw_1035 : (Jvm.Cond.methodLink "SettingsInLayersLaw" (61 : Nat) ({ cls := "SettingsInLayersModel", name := "layer", desc := "(II)I" } : Jvm.MethodName)) ∈ tblG := tm_0 (tm_t (tm_5 (List.mem_of_getElem? (i := 75) rfl))) rfl
theorem tw_1036 : (Jvm.Cond.instanceMethod ({ cls := "SettingsInLayersModel", name := "layer", desc := "(II)I" } : Jvm.MethodName)) ∈ tblG := tm_0 (tm_t (tm_5 (List.mem_of_getElem? (i := 76) rfl))) rfl
theorem tw_1037 : (Jvm.Cond.selects "SettingsInLayersModel" ({ cls := "SettingsInLayersModel", name := "layer", desc := "(II)I" } : Jvm.MethodName) ({ cls := "SettingsInLayersModel", name := "layer", desc := "(II)I" } : Jvm.MethodName)) ∈ tblG := tm_0 (tm_t (tm_5 (List.mem_of_getElem? (i := 77) rfl))) rfl
theorem tw_1038 : (Jvm.Cond.code ({ cls := "SettingsInLayersModel", name := "layer", desc := "(II)I" } : Jvm.MethodName) prog_10_method_44_code (5 : Nat) (Option.some Jvm.ClassFile.FieldType.int)) ∈ tblG := tm_0 (tm_t (tm_5 (List.mem_of_getElem? (i := 78) rfl))) rfl
theorem tw_1039 : (Jvm.Cond.methodLink "SettingsInLayersModel" (82 : Nat) ({ cls := "SettingsInLayersModel", name := "rank", desc := "(I)I" } : Jvm.MethodName)) ∈ tblG := tm_0 (tm_t (tm_5 (List.mem_of_getElem? (i := 79) rfl))) rfl
theorem tw_1041 : (Jvm.Cond.instanceMethod ({ cls := "SettingsInLayersModel", name := "rank", desc := "(I)I" } : Jvm.MethodName)) ∈ tblG := tm_0 (tm_t (tm_5 (List.mem_of_getElem? (i := 81) rfl))) rfl
theorem tw_1042 : (Jvm.Cond.code ({ cls := "SettingsInLayersModel", name := "rank", desc := "(I)I" } : Jvm.MethodName) prog_10_method_10_code (4 : Nat) (Option.some Jvm.ClassFile.FieldType.int)) ∈ tblG := tm_0 (tm_t (tm_5 (List.mem_of_getElem? (i := 82) rfl))) rfl
theorem tw_1043 : (Jvm.Cond.methodLink "SettingsInLayersModel" (92 : Nat) ({ cls := "SettingsInLayersModel", name := "isBehind", desc := "(II)Z" } : Jvm.MethodName)) ∈ tblG := tm_0 (tm_t (tm_5 (List.mem_of_getElem? (i := 83) rfl))) rfl
theorem tw_1045 : (Jvm.Cond.instanceMethod ({ cls := "SettingsInLayersModel", name := "isBehind", desc := "(II)Z" } : Jvm.MethodName)) ∈ tblG := tm_0 (tm_t (tm_5 (List.mem_of_getElem? (i := 85) rfl))) rfl
theorem tw_1046 : (Jvm.Cond.code ({ cls := "SettingsInLayersModel", name := "isBehind", desc := "(II)Z" } : Jvm.MethodName) prog_10_method_11_code (3 : Nat) (Option.some Jvm.ClassFile.FieldType.boolean)) ∈ tblG := tm_0 (tm_t (tm_5 (List.mem_of_getElem? (i := 86) rfl))) rfl
theorem tw_1047 : (Jvm.Cond.methodLink "SettingsInLayersLaw" (65 : Nat) ({ cls := "SettingsInLayersModel", name := "entry", desc := "(III)I" } : Jvm.MethodName)) ∈ tblG := tm_0 (tm_t (tm_5 (List.mem_of_getElem? (i := 87) rfl))) rfl
theorem tw_1048 : (Jvm.Cond.instanceMethod ({ cls := "SettingsInLayersModel", name := "entry", desc := "(III)I" } : Jvm.MethodName)) ∈ tblG := tm_0 (tm_t (tm_5 (List.mem_of_getElem? (i := 88) rfl))) rfl
theorem tw_1049 : (Jvm.Cond.selects "SettingsInLayersModel" ({ cls := "SettingsInLayersModel", name := "entry", desc := "(III)I" } : Jvm.MethodName) ({ cls := "SettingsInLayersModel", name := "entry", desc := "(III)I" } : Jvm.MethodName)) ∈ tblG := tm_0 (tm_t (tm_5 (List.mem_of_getElem? (i := 89) rfl))) rfl
theorem tw_1050 : (Jvm.Cond.code ({ cls := "SettingsInLayersModel", name := "entry", desc := "(III)I" } : Jvm.MethodName) prog_10_method_45_code (7 : Nat) (Option.some Jvm.ClassFile.FieldType.int)) ∈ tblG := tm_0 (tm_t (tm_5 (List.mem_of_getElem? (i := 90) rfl))) rfl
theorem tw_1051 : (Jvm.Cond.methodLink "SettingsInLayersLaw" (69 : Nat) ({ cls := "SettingsInLayersModel", name := "value", desc := "(II)I" } : Jvm.MethodName)) ∈ tblG := tm_0 (tm_t (tm_5 (List.mem_of_getElem? (i := 91) rfl))) rfl
theorem tw_1052 : (Jvm.Cond.instanceMethod ({ cls := "SettingsInLayersModel", name := "value", desc := "(II)I" } : Jvm.MethodName)) ∈ tblG := tm_0 (tm_t (tm_5 (List.mem_of_getElem? (i := 92) rfl))) rfl
theorem tw_1053 : (Jvm.Cond.selects "SettingsInLayersModel" ({ cls := "SettingsInLayersModel", name := "value", desc := "(II)I" } : Jvm.MethodName) ({ cls := "SettingsInLayersModel", name := "value", desc := "(II)I" } : Jvm.MethodName)) ∈ tblG := tm_0 (tm_t (tm_5 (List.mem_of_getElem? (i := 93) rfl))) rfl
theorem tw_1054 : (Jvm.Cond.code ({ cls := "SettingsInLayersModel", name := "value", desc := "(II)I" } : Jvm.MethodName) prog_10_method_46_code (3 : Nat) (Option.some Jvm.ClassFile.FieldType.int)) ∈ tblG := tm_0 (tm_t (tm_5 (List.mem_of_getElem? (i := 94) rfl))) rfl
theorem tw_1055 : (Jvm.Cond.methodLink "SettingsInLayersModel" (114 : Nat) ({ cls := "SettingsInLayersModel", name := "offers", desc := "(I)I" } : Jvm.MethodName)) ∈ tblG := tm_0 (tm_t (tm_5 (List.mem_of_getElem? (i := 95) rfl))) rfl
theorem tw_1057 : (Jvm.Cond.instanceMethod ({ cls := "SettingsInLayersModel", name := "offers", desc := "(I)I" } : Jvm.MethodName)) ∈ tblG := tm_0 (tm_t (tm_5 (List.mem_of_getElem? (i := 97) rfl))) rfl
theorem tw_1058 : (Jvm.Cond.code ({ cls := "SettingsInLayersModel", name := "offers", desc := "(I)I" } : Jvm.MethodName) prog_10_method_14_code (5 : Nat) (Option.some Jvm.ClassFile.FieldType.int)) ∈ tblG := tm_0 (tm_t (tm_5 (List.mem_of_getElem? (i := 98) rfl))) rfl
theorem tw_1059 : (Jvm.Cond.methodLink "SettingsInLayersModel" (95 : Nat) ({ cls := "SettingsInLayersModel", name := "ordered", desc := "(I)I" } : Jvm.MethodName)) ∈ tblG := tm_0 (tm_t (tm_5 (List.mem_of_getElem? (i := 99) rfl))) rfl
theorem tw_1061 : (Jvm.Cond.instanceMethod ({ cls := "SettingsInLayersModel", name := "ordered", desc := "(I)I" } : Jvm.MethodName)) ∈ tblG := tm_0 (tm_t (tm_5 (List.mem_of_getElem? (i := 101) rfl))) rfl
theorem tw_1062 : (Jvm.Cond.code ({ cls := "SettingsInLayersModel", name := "ordered", desc := "(I)I" } : Jvm.MethodName) prog_10_method_13_code (5 : Nat) (Option.some Jvm.ClassFile.FieldType.int)) ∈ tblG := tm_0 (tm_t (tm_5 (List.mem_of_getElem? (i := 102) rfl))) rfl
theorem tw_1063 : (Jvm.Cond.methodLink "SettingsInLayersModel" (89 : Nat) ({ cls := "SettingsInLayersModel", name := "counts", desc := "(II)Z" } : Jvm.MethodName)) ∈ tblG := tm_0 (tm_t (tm_5 (List.mem_of_getElem? (i := 103) rfl))) rfl
theorem tw_1065 : (Jvm.Cond.instanceMethod ({ cls := "SettingsInLayersModel", name := "counts", desc := "(II)Z" } : Jvm.MethodName)) ∈ tblG := tm_0 (tm_t (tm_5 (List.mem_of_getElem? (i := 105) rfl))) rfl
theorem tw_1066 : (Jvm.Cond.code ({ cls := "SettingsInLayersModel", name := "counts", desc := "(II)Z" } : Jvm.MethodName) prog_10_method_12_code (6 : Nat) (Option.some Jvm.ClassFile.FieldType.boolean)) ∈ tblG := tm_0 (tm_t (tm_5 (List.mem_of_getElem? (i := 106) rfl))) rfl
theorem tw_1067 : (Jvm.Cond.methodLink "SettingsInLayersModel" (135 : Nat) ({ cls := "SettingsInLayersModel", name := "resolves", desc := "(I)Z" } : Jvm.MethodName)) ∈ tblG := tm_0 (tm_t (tm_5 (List.mem_of_getElem? (i := 107) rfl))) rfl
theorem tw_1069 : (Jvm.Cond.instanceMethod ({ cls := "SettingsInLayersModel", name := "resolves", desc := "(I)Z" } : Jvm.MethodName)) ∈ tblG := tm_0 (tm_t (tm_5 (List.mem_of_getElem? (i := 109) rfl))) rfl
theorem tw_1070 : (Jvm.Cond.code ({ cls := "SettingsInLayersModel", name := "resolves", desc := "(I)Z" } : Jvm.MethodName) prog_10_method_16_code (3 : Nat) (Option.some Jvm.ClassFile.FieldType.boolean)) ∈ tblG := tm_0 (tm_t (tm_5 (List.mem_of_getElem? (i := 110) rfl))) rfl
theorem tw_1071 : (Jvm.Cond.methodLink "SettingsInLayersModel" (108 : Nat) ({ cls := "SettingsInLayersModel", name := "resolves", desc := "(II)Z" } : Jvm.MethodName)) ∈ tblG := tm_0 (tm_t (tm_5 (List.mem_of_getElem? (i := 111) rfl))) rfl
theorem tw_1073 : (Jvm.Cond.instanceMethod ({ cls := "SettingsInLayersModel", name := "resolves", desc := "(II)Z" } : Jvm.MethodName)) ∈ tblG := tm_0 (tm_t (tm_5 (List.mem_of_getElem? (i := 113) rfl))) rfl
theorem tw_1074 : (Jvm.Cond.code ({ cls := "SettingsInLayersModel", name := "resolves", desc := "(II)Z" } : Jvm.MethodName) prog_10_method_17_code (5 : Nat) (Option.some Jvm.ClassFile.FieldType.boolean)) ∈ tblG := tm_0 (tm_t (tm_5 (List.mem_of_getElem? (i := 114) rfl))) rfl
theorem tw_1075 : (Jvm.Cond.methodLink "SettingsInLayersModel" (111 : Nat) ({ cls := "SettingsInLayersModel", name := "fails", desc := "(II)Z" } : Jvm.MethodName)) ∈ tblG := tm_0 (tm_t (tm_5 (List.mem_of_getElem? (i := 115) rfl))) rfl
theorem tw_1077 : (Jvm.Cond.instanceMethod ({ cls := "SettingsInLayersModel", name := "fails", desc := "(II)Z" } : Jvm.MethodName)) ∈ tblG := tm_0 (tm_t (tm_5 (List.mem_of_getElem? (i := 117) rfl))) rfl
theorem tw_1078 : (Jvm.Cond.code ({ cls := "SettingsInLayersModel", name := "fails", desc := "(II)Z" } : Jvm.MethodName) prog_10_method_15_code (4 : Nat) (Option.some Jvm.ClassFile.FieldType.boolean)) ∈ tblG := tm_0 (tm_t (tm_5 (List.mem_of_getElem? (i := 118) rfl))) rfl
theorem tw_1079 : (Jvm.Cond.methodLink "SettingsInLayersModel" (117 : Nat) ({ cls := "SettingsInLayersModel", name := "takes", desc := "(III)Z" } : Jvm.MethodName)) ∈ tblG := tm_0 (tm_t (tm_5 (List.mem_of_getElem? (i := 119) rfl))) rfl
theorem tw_1081 : (Jvm.Cond.instanceMethod ({ cls := "SettingsInLayersModel", name := "takes", desc := "(III)Z" } : Jvm.MethodName)) ∈ tblG := tm_0 (tm_t (tm_5 (List.mem_of_getElem? (i := 121) rfl))) rfl
theorem tw_1082 : (Jvm.Cond.code ({ cls := "SettingsInLayersModel", name := "takes", desc := "(III)Z" } : Jvm.MethodName) prog_10_method_21_code (9 : Nat) (Option.some Jvm.ClassFile.FieldType.boolean)) ∈ tblG := tm_0 (tm_t (tm_5 (List.mem_of_getElem? (i := 122) rfl))) rfl
theorem tw_1083 : (Jvm.Cond.methodLink "SettingsInLayersModel" (125 : Nat) ({ cls := "SettingsInLayersModel", name := "makes", desc := "(III)Z" } : Jvm.MethodName)) ∈ tblG := tm_0 (tm_t (tm_5 (List.mem_of_getElem? (i := 123) rfl))) rfl
theorem tw_1085 : (Jvm.Cond.instanceMethod ({ cls := "SettingsInLayersModel", name := "makes", desc := "(III)Z" } : Jvm.MethodName)) ∈ tblG := tm_0 (tm_t (tm_5 (List.mem_of_getElem? (i := 125) rfl))) rfl
theorem tw_1086 : (Jvm.Cond.code ({ cls := "SettingsInLayersModel", name := "makes", desc := "(III)Z" } : Jvm.MethodName) prog_10_method_18_code (8 : Nat) (Option.some Jvm.ClassFile.FieldType.boolean)) ∈ tblG := tm_0 (tm_t (tm_5 (List.mem_of_getElem? (i := 126) rfl))) rfl
theorem tw_1087 : (Jvm.Cond.methodLink "SettingsInLayersModel" (128 : Nat) ({ cls := "SettingsInLayersModel", name := "is", desc := "(II)V" } : Jvm.MethodName)) ∈ tblG := tm_0 (tm_t (tm_5 (List.mem_of_getElem? (i := 127) rfl))) rfl
theorem tw_1089 : (Jvm.Cond.instanceMethod ({ cls := "SettingsInLayersModel", name := "is", desc := "(II)V" } : Jvm.MethodName)) ∈ tblG := tm_0 (tm_t (tm_5 (List.mem_of_getElem? (i := 129) rfl))) rfl
theorem tw_1090 : (Jvm.Cond.code ({ cls := "SettingsInLayersModel", name := "is", desc := "(II)V" } : Jvm.MethodName) prog_10_method_19_code (4 : Nat) (Option.none : Option Jvm.ClassFile.FieldType)) ∈ tblG := tm_0 (tm_t (tm_5 (List.mem_of_getElem? (i := 130) rfl))) rfl
theorem tw_1091 : (Jvm.Cond.methodLink "SettingsInLayersModel" (132 : Nat) ({ cls := "SettingsInLayersModel", name := "merges", desc := "(III)Z" } : Jvm.MethodName)) ∈ tblG := tm_0 (tm_t (tm_5 (List.mem_of_getElem? (i := 131) rfl))) rfl
theorem tw_1093 : (Jvm.Cond.instanceMethod ({ cls := "SettingsInLayersModel", name := "merges", desc := "(III)Z" } : Jvm.MethodName)) ∈ tblG := tm_0 (tm_t (tm_5 (List.mem_of_getElem? (i := 133) rfl))) rfl
theorem tw_1094 : (Jvm.Cond.code ({ cls := "SettingsInLayersModel", name := "merges", desc := "(III)Z" } : Jvm.MethodName) prog_10_method_20_code (7 : Nat) (Option.some Jvm.ClassFile.FieldType.boolean)) ∈ tblG := tm_0 (tm_t (tm_5 (List.mem_of_getElem? (i := 134) rfl))) rfl
theorem tw_1095 : (Jvm.Cond.methodLink "SettingsInLayersLaw" (73 : Nat) ({ cls := "SettingsInLayersModel", name := "item", desc := "(III)I" } : Jvm.MethodName)) ∈ tblG := tm_0 (tm_t (tm_5 (List.mem_of_getElem? (i := 135) rfl))) rfl
theorem tw_1096 : (Jvm.Cond.instanceMethod ({ cls := "SettingsInLayersModel", name := "item", desc := "(III)I" } : Jvm.MethodName)) ∈ tblG := tm_0 (tm_t (tm_5 (List.mem_of_getElem? (i := 136) rfl))) rfl
theorem tw_1097 : (Jvm.Cond.selects "SettingsInLayersModel" ({ cls := "SettingsInLayersModel", name := "item", desc := "(III)I" } : Jvm.MethodName) ({ cls := "SettingsInLayersModel", name := "item", desc := "(III)I" } : Jvm.MethodName)) ∈ tblG := tm_0 (tm_t (tm_5 (List.mem_of_getElem? (i := 137) rfl))) rfl
theorem tw_1098 : (Jvm.Cond.code ({ cls := "SettingsInLayersModel", name := "item", desc := "(III)I" } : Jvm.MethodName) prog_10_method_47_code (4 : Nat) (Option.some Jvm.ClassFile.FieldType.int)) ∈ tblG := tm_0 (tm_t (tm_5 (List.mem_of_getElem? (i := 138) rfl))) rfl
theorem tw_1099 : (Jvm.Cond.methodLink "SettingsInLayersLaw" (77 : Nat) ({ cls := "SettingsInLayersModel", name := "fault", desc := "(III)I" } : Jvm.MethodName)) ∈ tblG := tm_0 (tm_t (tm_5 (List.mem_of_getElem? (i := 139) rfl))) rfl
theorem tw_1100 : (Jvm.Cond.instanceMethod ({ cls := "SettingsInLayersModel", name := "fault", desc := "(III)I" } : Jvm.MethodName)) ∈ tblG := tm_0 (tm_t (tm_5 (List.mem_of_getElem? (i := 140) rfl))) rfl
theorem tw_1101 : (Jvm.Cond.selects "SettingsInLayersModel" ({ cls := "SettingsInLayersModel", name := "fault", desc := "(III)I" } : Jvm.MethodName) ({ cls := "SettingsInLayersModel", name := "fault", desc := "(III)I" } : Jvm.MethodName)) ∈ tblG := tm_0 (tm_t (tm_5 (List.mem_of_getElem? (i := 141) rfl))) rfl
theorem tw_1102 : (Jvm.Cond.code ({ cls := "SettingsInLayersModel", name := "fault", desc := "(III)I" } : Jvm.MethodName) prog_10_method_48_code (4 : Nat) (Option.some Jvm.ClassFile.FieldType.int)) ∈ tblG := tm_0 (tm_t (tm_5 (List.mem_of_getElem? (i := 142) rfl))) rfl
theorem tw_1103 : (Jvm.Cond.methodLink "SettingsInLayersLaw" (81 : Nat) ({ cls := "SettingsInLayersModel", name := "sources", desc := "(II)I" } : Jvm.MethodName)) ∈ tblG := tm_0 (tm_t (tm_5 (List.mem_of_getElem? (i := 143) rfl))) rfl
theorem tw_1104 : (Jvm.Cond.instanceMethod ({ cls := "SettingsInLayersModel", name := "sources", desc := "(II)I" } : Jvm.MethodName)) ∈ tblG := tm_0 (tm_t (tm_5 (List.mem_of_getElem? (i := 144) rfl))) rfl
theorem tw_1105 : (Jvm.Cond.selects "SettingsInLayersModel" ({ cls := "SettingsInLayersModel", name := "sources", desc := "(II)I" } : Jvm.MethodName) ({ cls := "SettingsInLayersModel", name := "sources", desc := "(II)I" } : Jvm.MethodName)) ∈ tblG := tm_0 (tm_t (tm_5 (List.mem_of_getElem? (i := 145) rfl))) rfl
theorem tw_1106 : (Jvm.Cond.code ({ cls := "SettingsInLayersModel", name := "sources", desc := "(II)I" } : Jvm.MethodName) prog_10_method_49_code (3 : Nat) (Option.some Jvm.ClassFile.FieldType.int)) ∈ tblG := tm_0 (tm_t (tm_5 (List.mem_of_getElem? (i := 146) rfl))) rfl
theorem tw_1107 : (Jvm.Cond.methodLink "SettingsInLayersLaw" (85 : Nat) ({ cls := "SettingsInLayersModel", name := "uses", desc := "(II)I" } : Jvm.MethodName)) ∈ tblG := tm_0 (tm_t (tm_5 (List.mem_of_getElem? (i := 147) rfl))) rfl
theorem tw_1108 : (Jvm.Cond.instanceMethod ({ cls := "SettingsInLayersModel", name := "uses", desc := "(II)I" } : Jvm.MethodName)) ∈ tblG := tm_0 (tm_t (tm_5 (List.mem_of_getElem? (i := 148) rfl))) rfl
theorem tw_1109 : (Jvm.Cond.selects "SettingsInLayersModel" ({ cls := "SettingsInLayersModel", name := "uses", desc := "(II)I" } : Jvm.MethodName) ({ cls := "SettingsInLayersModel", name := "uses", desc := "(II)I" } : Jvm.MethodName)) ∈ tblG := tm_0 (tm_t (tm_5 (List.mem_of_getElem? (i := 149) rfl))) rfl
theorem tw_1110 : (Jvm.Cond.code ({ cls := "SettingsInLayersModel", name := "uses", desc := "(II)I" } : Jvm.MethodName) prog_10_method_51_code (5 : Nat) (Option.some Jvm.ClassFile.FieldType.int)) ∈ tblG := tm_0 (tm_t (tm_5 (List.mem_of_getElem? (i := 150) rfl))) rfl
theorem tw_1111 : (Jvm.Cond.methodLink "SettingsInLayersModel" (195 : Nat) ({ cls := "SettingsInLayersModel", name := "usesOf", desc := "(I)I" } : Jvm.MethodName)) ∈ tblG := tm_0 (tm_t (tm_5 (List.mem_of_getElem? (i := 151) rfl))) rfl
theorem tw_1113 : (Jvm.Cond.instanceMethod ({ cls := "SettingsInLayersModel", name := "usesOf", desc := "(I)I" } : Jvm.MethodName)) ∈ tblG := tm_0 (tm_t (tm_5 (List.mem_of_getElem? (i := 153) rfl))) rfl
theorem tw_1114 : (Jvm.Cond.code ({ cls := "SettingsInLayersModel", name := "usesOf", desc := "(I)I" } : Jvm.MethodName) prog_10_method_50_code (2 : Nat) (Option.some Jvm.ClassFile.FieldType.int)) ∈ tblG := tm_0 (tm_t (tm_5 (List.mem_of_getElem? (i := 154) rfl))) rfl
theorem tw_1115 : (Jvm.Cond.methodLink "SettingsInLayersLaw" (89 : Nat) ({ cls := "SettingsInLayersModel", name := "all", desc := "(I)I" } : Jvm.MethodName)) ∈ tblG := tm_0 (tm_t (tm_5 (List.mem_of_getElem? (i := 155) rfl))) rfl
theorem tw_1116 : (Jvm.Cond.instanceMethod ({ cls := "SettingsInLayersModel", name := "all", desc := "(I)I" } : Jvm.MethodName)) ∈ tblG := tm_0 (tm_t (tm_5 (List.mem_of_getElem? (i := 156) rfl))) rfl
theorem tw_1117 : (Jvm.Cond.selects "SettingsInLayersModel" ({ cls := "SettingsInLayersModel", name := "all", desc := "(I)I" } : Jvm.MethodName) ({ cls := "SettingsInLayersModel", name := "all", desc := "(I)I" } : Jvm.MethodName)) ∈ tblG := tm_0 (tm_t (tm_5 (List.mem_of_getElem? (i := 157) rfl))) rfl
theorem tw_1118 : (Jvm.Cond.code ({ cls := "SettingsInLayersModel", name := "all", desc := "(I)I" } : Jvm.MethodName) prog_10_method_54_code (2 : Nat) (Option.some Jvm.ClassFile.FieldType.int)) ∈ tblG := tm_0 (tm_t (tm_5 (List.mem_of_getElem? (i := 158) rfl))) rfl
theorem tw_1119 : (Jvm.Cond.methodLink "SettingsInLayersModel" (201 : Nat) ({ cls := "SettingsInLayersModel", name := "allSo", desc := "(I)I" } : Jvm.MethodName)) ∈ tblG := tm_0 (tm_t (tm_5 (List.mem_of_getElem? (i := 159) rfl))) rfl
theorem tw_1121 : (Jvm.Cond.instanceMethod ({ cls := "SettingsInLayersModel", name := "allSo", desc := "(I)I" } : Jvm.MethodName)) ∈ tblG := tm_0 (tm_t (tm_5 (List.mem_of_getElem? (i := 161) rfl))) rfl
theorem tw_1122 : (Jvm.Cond.code ({ cls := "SettingsInLayersModel", name := "allSo", desc := "(I)I" } : Jvm.MethodName) prog_10_method_53_code (4 : Nat) (Option.some Jvm.ClassFile.FieldType.int)) ∈ tblG := tm_0 (tm_t (tm_5 (List.mem_of_getElem? (i := 162) rfl))) rfl
theorem tw_1123 : (Jvm.Cond.methodLink "SettingsInLayersModel" (198 : Nat) ({ cls := "SettingsInLayersModel", name := "isSo", desc := "(II)Z" } : Jvm.MethodName)) ∈ tblG := tm_0 (tm_t (tm_5 (List.mem_of_getElem? (i := 163) rfl))) rfl
theorem tw_1125 : (Jvm.Cond.instanceMethod ({ cls := "SettingsInLayersModel", name := "isSo", desc := "(II)Z" } : Jvm.MethodName)) ∈ tblG := tm_0 (tm_t (tm_5 (List.mem_of_getElem? (i := 165) rfl))) rfl
theorem tw_1126 : (Jvm.Cond.code ({ cls := "SettingsInLayersModel", name := "isSo", desc := "(II)Z" } : Jvm.MethodName) prog_10_method_52_code (4 : Nat) (Option.some Jvm.ClassFile.FieldType.boolean)) ∈ tblG := tm_0 (tm_t (tm_5 (List.mem_of_getElem? (i := 166) rfl))) rfl
theorem tw_1127 : (Jvm.Cond.methodLink "SettingsInLayersLaw" (93 : Nat) ({ cls := "SettingsInLayersModel", name := "hidden", desc := "(I)I" } : Jvm.MethodName)) ∈ tblG := tm_0 (tm_t (tm_5 (List.mem_of_getElem? (i := 167) rfl))) rfl
theorem tw_1128 : (Jvm.Cond.instanceMethod ({ cls := "SettingsInLayersModel", name := "hidden", desc := "(I)I" } : Jvm.MethodName)) ∈ tblG := tm_0 (tm_t (tm_5 (List.mem_of_getElem? (i := 168) rfl))) rfl
theorem tw_1129 : (Jvm.Cond.selects "SettingsInLayersModel" ({ cls := "SettingsInLayersModel", name := "hidden", desc := "(I)I" } : Jvm.MethodName) ({ cls := "SettingsInLayersModel", name := "hidden", desc := "(I)I" } : Jvm.MethodName)) ∈ tblG := tm_0 (tm_t (tm_5 (List.mem_of_getElem? (i := 169) rfl))) rfl
theorem tw_1130 : (Jvm.Cond.code ({ cls := "SettingsInLayersModel", name := "hidden", desc := "(I)I" } : Jvm.MethodName) prog_10_method_58_code (5 : Nat) (Option.some Jvm.ClassFile.FieldType.int)) ∈ tblG := tm_0 (tm_t (tm_5 (List.mem_of_getElem? (i := 170) rfl))) rfl
theorem tw_1131 : (Jvm.Cond.methodLink "SettingsInLayersModel" (207 : Nat) ({ cls := "SettingsInLayersModel", name := "tells", desc := "(I)V" } : Jvm.MethodName)) ∈ tblG := tm_0 (tm_t (tm_5 (List.mem_of_getElem? (i := 171) rfl))) rfl
theorem tw_1133 : (Jvm.Cond.instanceMethod ({ cls := "SettingsInLayersModel", name := "tells", desc := "(I)V" } : Jvm.MethodName)) ∈ tblG := tm_0 (tm_t (tm_5 (List.mem_of_getElem? (i := 173) rfl))) rfl
theorem tw_1134 : (Jvm.Cond.code ({ cls := "SettingsInLayersModel", name := "tells", desc := "(I)V" } : Jvm.MethodName) prog_10_method_56_code (5 : Nat) (Option.none : Option Jvm.ClassFile.FieldType)) ∈ tblG := tm_0 (tm_t (tm_5 (List.mem_of_getElem? (i := 174) rfl))) rfl
theorem tw_1135 : (Jvm.Cond.methodLink "SettingsInLayersModel" (211 : Nat) ({ cls := "SettingsInLayersModel", name := "isLike", desc := "(I)Z" } : Jvm.MethodName)) ∈ tblG := tm_0 (tm_t (tm_5 (List.mem_of_getElem? (i := 175) rfl))) rfl
theorem tw_1137 : (Jvm.Cond.instanceMethod ({ cls := "SettingsInLayersModel", name := "isLike", desc := "(I)Z" } : Jvm.MethodName)) ∈ tblG := tm_0 (tm_t (tm_5 (List.mem_of_getElem? (i := 177) rfl))) rfl
theorem tw_1138 : (Jvm.Cond.code ({ cls := "SettingsInLayersModel", name := "isLike", desc := "(I)Z" } : Jvm.MethodName) prog_10_method_57_code (5 : Nat) (Option.some Jvm.ClassFile.FieldType.boolean)) ∈ tblG := tm_0 (tm_t (tm_5 (List.mem_of_getElem? (i := 178) rfl))) rfl
theorem tw_1139 : (Jvm.Cond.methodLink "SettingsInLayersModel" (204 : Nat) ({ cls := "SettingsInLayersModel", name := "told", desc := "(II)I" } : Jvm.MethodName)) ∈ tblG := tm_0 (tm_t (tm_5 (List.mem_of_getElem? (i := 179) rfl))) rfl
theorem tw_1141 : (Jvm.Cond.instanceMethod ({ cls := "SettingsInLayersModel", name := "told", desc := "(II)I" } : Jvm.MethodName)) ∈ tblG := tm_0 (tm_t (tm_5 (List.mem_of_getElem? (i := 181) rfl))) rfl
theorem tw_1142 : (Jvm.Cond.code ({ cls := "SettingsInLayersModel", name := "told", desc := "(II)I" } : Jvm.MethodName) prog_10_method_55_code (3 : Nat) (Option.some Jvm.ClassFile.FieldType.int)) ∈ tblG := tm_0 (tm_t (tm_5 (List.mem_of_getElem? (i := 182) rfl))) rfl
theorem tw_1143 : (Jvm.Cond.methodLink "SettingsInLayersLaw" (97 : Nat) ({ cls := "SettingsInLayersModel", name := "without", desc := "(II)I" } : Jvm.MethodName)) ∈ tblG := tm_0 (tm_t (tm_5 (List.mem_of_getElem? (i := 183) rfl))) rfl
theorem tw_1144 : (Jvm.Cond.instanceMethod ({ cls := "SettingsInLayersModel", name := "without", desc := "(II)I" } : Jvm.MethodName)) ∈ tblG := tm_0 (tm_t (tm_5 (List.mem_of_getElem? (i := 184) rfl))) rfl
theorem tw_1145 : (Jvm.Cond.selects "SettingsInLayersModel" ({ cls := "SettingsInLayersModel", name := "without", desc := "(II)I" } : Jvm.MethodName) ({ cls := "SettingsInLayersModel", name := "without", desc := "(II)I" } : Jvm.MethodName)) ∈ tblG := tm_0 (tm_t (tm_5 (List.mem_of_getElem? (i := 185) rfl))) rfl
theorem tw_1146 : (Jvm.Cond.code ({ cls := "SettingsInLayersModel", name := "without", desc := "(II)I" } : Jvm.MethodName) prog_10_method_60_code (3 : Nat) (Option.some Jvm.ClassFile.FieldType.int)) ∈ tblG := tm_0 (tm_t (tm_5 (List.mem_of_getElem? (i := 186) rfl))) rfl
theorem tw_1147 : (Jvm.Cond.methodLink "SettingsInLayersModel" (217 : Nat) ({ cls := "SettingsInLayersModel", name := "numberWith", desc := "(III)I" } : Jvm.MethodName)) ∈ tblG := tm_0 (tm_t (tm_5 (List.mem_of_getElem? (i := 187) rfl))) rfl
theorem tw_1149 : (Jvm.Cond.instanceMethod ({ cls := "SettingsInLayersModel", name := "numberWith", desc := "(III)I" } : Jvm.MethodName)) ∈ tblG := tm_0 (tm_t (tm_5 (List.mem_of_getElem? (i := 189) rfl))) rfl
theorem tw_1150 : (Jvm.Cond.code ({ cls := "SettingsInLayersModel", name := "numberWith", desc := "(III)I" } : Jvm.MethodName) prog_10_method_59_code (6 : Nat) (Option.some Jvm.ClassFile.FieldType.int)) ∈ tblG := tm_0 (tm_t (tm_5 (List.mem_of_getElem? (i := 190) rfl))) rfl
theorem tw_1151 : (Jvm.Cond.methodLink "SettingsInLayersModel" (214 : Nat) ({ cls := "SettingsInLayersModel", name := "numberOf", desc := "(I)I" } : Jvm.MethodName)) ∈ tblG := tm_0 (tm_t (tm_5 (List.mem_of_getElem? (i := 191) rfl))) rfl
theorem tw_1153 : (Jvm.Cond.instanceMethod ({ cls := "SettingsInLayersModel", name := "numberOf", desc := "(I)I" } : Jvm.MethodName)) ∈ tblG := tm_0 (tm_t (tm_5 (List.mem_of_getElem? (i := 193) rfl))) rfl
theorem tw_1154 : (Jvm.Cond.code ({ cls := "SettingsInLayersModel", name := "numberOf", desc := "(I)I" } : Jvm.MethodName) prog_10_method_22_code (2 : Nat) (Option.some Jvm.ClassFile.FieldType.int)) ∈ tblG := tm_0 (tm_t (tm_5 (List.mem_of_getElem? (i := 194) rfl))) rfl
theorem tw_1155 : (Jvm.Cond.methodLink "SettingsInLayersLaw" (101 : Nat) ({ cls := "SettingsInLayersModel", name := "turn", desc := "(II)I" } : Jvm.MethodName)) ∈ tblG := tm_0 (tm_t (tm_5 (List.mem_of_getElem? (i := 195) rfl))) rfl
theorem tw_1156 : (Jvm.Cond.instanceMethod ({ cls := "SettingsInLayersModel", name := "turn", desc := "(II)I" } : Jvm.MethodName)) ∈ tblG := tm_0 (tm_t (tm_5 (List.mem_of_getElem? (i := 196) rfl))) rfl
theorem tw_1157 : (Jvm.Cond.selects "SettingsInLayersModel" ({ cls := "SettingsInLayersModel", name := "turn", desc := "(II)I" } : Jvm.MethodName) ({ cls := "SettingsInLayersModel", name := "turn", desc := "(II)I" } : Jvm.MethodName)) ∈ tblG := tm_0 (tm_t (tm_5 (List.mem_of_getElem? (i := 197) rfl))) rfl
theorem tw_1158 : (Jvm.Cond.code ({ cls := "SettingsInLayersModel", name := "turn", desc := "(II)I" } : Jvm.MethodName) prog_10_method_61_code (4 : Nat) (Option.some Jvm.ClassFile.FieldType.int)) ∈ tblG := tm_0 (tm_t (tm_5 (List.mem_of_getElem? (i := 198) rfl))) rfl
theorem tw_1159 : (Jvm.Cond.methodLink "SettingsInLayersLaw" (105 : Nat) ({ cls := "SettingsInLayersModel", name := "set", desc := "(IIII)I" } : Jvm.MethodName)) ∈ tblG := tm_0 (tm_t (tm_5 (List.mem_of_getElem? (i := 199) rfl))) rfl
theorem tw_1160 : (Jvm.Cond.instanceMethod ({ cls := "SettingsInLayersModel", name := "set", desc := "(IIII)I" } : Jvm.MethodName)) ∈ tblG := tm_0 (tm_t (tm_5 (List.mem_of_getElem? (i := 200) rfl))) rfl
theorem tw_1161 : (Jvm.Cond.selects "SettingsInLayersModel" ({ cls := "SettingsInLayersModel", name := "set", desc := "(IIII)I" } : Jvm.MethodName) ({ cls := "SettingsInLayersModel", name := "set", desc := "(IIII)I" } : Jvm.MethodName)) ∈ tblG := tm_0 (tm_t (tm_5 (List.mem_of_getElem? (i := 201) rfl))) rfl
theorem tw_1162 : (Jvm.Cond.code ({ cls := "SettingsInLayersModel", name := "set", desc := "(IIII)I" } : Jvm.MethodName) prog_10_method_62_code (7 : Nat) (Option.some Jvm.ClassFile.FieldType.int)) ∈ tblG := tm_0 (tm_t (tm_5 (List.mem_of_getElem? (i := 202) rfl))) rfl
theorem tw_1163 : (Jvm.Cond.methodLink "SettingsInLayersLaw" (109 : Nat) ({ cls := "SettingsInLayersModel", name := "byManner", desc := "(II)I" } : Jvm.MethodName)) ∈ tblG := tm_0 (tm_t (tm_5 (List.mem_of_getElem? (i := 203) rfl))) rfl
theorem tw_1164 : (Jvm.Cond.instanceMethod ({ cls := "SettingsInLayersModel", name := "byManner", desc := "(II)I" } : Jvm.MethodName)) ∈ tblG := tm_0 (tm_t (tm_5 (List.mem_of_getElem? (i := 204) rfl))) rfl
theorem tw_1165 : (Jvm.Cond.selects "SettingsInLayersModel" ({ cls := "SettingsInLayersModel", name := "byManner", desc := "(II)I" } : Jvm.MethodName) ({ cls := "SettingsInLayersModel", name := "byManner", desc := "(II)I" } : Jvm.MethodName)) ∈ tblG := tm_0 (tm_t (tm_5 (List.mem_of_getElem? (i := 205) rfl))) rfl
theorem tw_1166 : (Jvm.Cond.code ({ cls := "SettingsInLayersModel", name := "byManner", desc := "(II)I" } : Jvm.MethodName) prog_10_method_63_code (6 : Nat) (Option.some Jvm.ClassFile.FieldType.int)) ∈ tblG := tm_0 (tm_t (tm_5 (List.mem_of_getElem? (i := 206) rfl))) rfl
theorem tw_1167 : (Jvm.Cond.methodLink "SettingsInLayersLaw" (113 : Nat) ({ cls := "SettingsInLayersModel", name := "fewest", desc := "()I" } : Jvm.MethodName)) ∈ tblG := tm_0 (tm_t (tm_5 (List.mem_of_getElem? (i := 207) rfl))) rfl
theorem tw_1168 : (Jvm.Cond.instanceMethod ({ cls := "SettingsInLayersModel", name := "fewest", desc := "()I" } : Jvm.MethodName)) ∈ tblG := tm_0 (tm_t (tm_5 (List.mem_of_getElem? (i := 208) rfl))) rfl
theorem tw_1169 : (Jvm.Cond.selects "SettingsInLayersModel" ({ cls := "SettingsInLayersModel", name := "fewest", desc := "()I" } : Jvm.MethodName) ({ cls := "SettingsInLayersModel", name := "fewest", desc := "()I" } : Jvm.MethodName)) ∈ tblG := tm_0 (tm_t (tm_5 (List.mem_of_getElem? (i := 209) rfl))) rfl
theorem tw_1170 : (Jvm.Cond.code ({ cls := "SettingsInLayersModel", name := "fewest", desc := "()I" } : Jvm.MethodName) prog_10_method_67_code (4 : Nat) (Option.some Jvm.ClassFile.FieldType.int)) ∈ tblG := tm_0 (tm_t (tm_5 (List.mem_of_getElem? (i := 210) rfl))) rfl
theorem tw_1171 : (Jvm.Cond.methodLink "SettingsInLayersModel" (220 : Nat) ({ cls := "SettingsInLayersModel", name := "onNow", desc := "()I" } : Jvm.MethodName)) ∈ tblG := tm_0 (tm_t (tm_5 (List.mem_of_getElem? (i := 211) rfl))) rfl
theorem tw_1173 : (Jvm.Cond.instanceMethod ({ cls := "SettingsInLayersModel", name := "onNow", desc := "()I" } : Jvm.MethodName)) ∈ tblG := tm_0 (tm_t (tm_5 (List.mem_of_getElem? (i := 213) rfl))) rfl
theorem tw_1174 : (Jvm.Cond.code ({ cls := "SettingsInLayersModel", name := "onNow", desc := "()I" } : Jvm.MethodName) prog_10_method_65_code (3 : Nat) (Option.some Jvm.ClassFile.FieldType.int)) ∈ tblG := tm_0 (tm_t (tm_5 (List.mem_of_getElem? (i := 214) rfl))) rfl
theorem tw_1175 : (Jvm.Cond.methodLink "SettingsInLayersModel" (223 : Nat) ({ cls := "SettingsInLayersModel", name := "turnsTo", desc := "(I)V" } : Jvm.MethodName)) ∈ tblG := tm_0 (tm_t (tm_5 (List.mem_of_getElem? (i := 215) rfl))) rfl
theorem tw_1177 : (Jvm.Cond.instanceMethod ({ cls := "SettingsInLayersModel", name := "turnsTo", desc := "(I)V" } : Jvm.MethodName)) ∈ tblG := tm_0 (tm_t (tm_5 (List.mem_of_getElem? (i := 217) rfl))) rfl
theorem tw_1178 : (Jvm.Cond.code ({ cls := "SettingsInLayersModel", name := "turnsTo", desc := "(I)V" } : Jvm.MethodName) prog_10_method_64_code (3 : Nat) (Option.none : Option Jvm.ClassFile.FieldType)) ∈ tblG := tm_0 (tm_t (tm_5 (List.mem_of_getElem? (i := 218) rfl))) rfl
theorem tw_1179 : (Jvm.Cond.methodLink "SettingsInLayersModel" (226 : Nat) ({ cls := "SettingsInLayersModel", name := "areLike", desc := "()Z" } : Jvm.MethodName)) ∈ tblG := tm_0 (tm_t (tm_5 (List.mem_of_getElem? (i := 219) rfl))) rfl
theorem tw_1181 : (Jvm.Cond.instanceMethod ({ cls := "SettingsInLayersModel", name := "areLike", desc := "()Z" } : Jvm.MethodName)) ∈ tblG := tm_0 (tm_t (tm_5 (List.mem_of_getElem? (i := 221) rfl))) rfl
theorem tw_1182 : (Jvm.Cond.code ({ cls := "SettingsInLayersModel", name := "areLike", desc := "()Z" } : Jvm.MethodName) prog_10_method_66_code (3 : Nat) (Option.some Jvm.ClassFile.FieldType.boolean)) ∈ tblG := tm_0 (tm_t (tm_5 (List.mem_of_getElem? (i := 222) rfl))) rfl
theorem tw_1183 : (Jvm.Cond.methodLink "SettingsInLayersLaw" (117 : Nat) ({ cls := "SettingsInLayersModel", name := "since", desc := "()I" } : Jvm.MethodName)) ∈ tblG := tm_0 (tm_t (tm_5 (List.mem_of_getElem? (i := 223) rfl))) rfl
theorem tw_1184 : (Jvm.Cond.instanceMethod ({ cls := "SettingsInLayersModel", name := "since", desc := "()I" } : Jvm.MethodName)) ∈ tblG := tm_0 (tm_t (tm_5 (List.mem_of_getElem? (i := 224) rfl))) rfl
theorem tw_1185 : (Jvm.Cond.selects "SettingsInLayersModel" ({ cls := "SettingsInLayersModel", name := "since", desc := "()I" } : Jvm.MethodName) ({ cls := "SettingsInLayersModel", name := "since", desc := "()I" } : Jvm.MethodName)) ∈ tblG := tm_0 (tm_t (tm_5 (List.mem_of_getElem? (i := 225) rfl))) rfl
theorem tw_1186 : (Jvm.Cond.code ({ cls := "SettingsInLayersModel", name := "since", desc := "()I" } : Jvm.MethodName) prog_10_method_68_code (3 : Nat) (Option.some Jvm.ClassFile.FieldType.int)) ∈ tblG := tm_0 (tm_t (tm_5 (List.mem_of_getElem? (i := 226) rfl))) rfl
theorem tw_1187 : (Jvm.Cond.methodLink "SettingsInLayersLaw" (122 : Nat) ({ cls := "SettingsInLayersModel", name := "missing", desc := "(IIII)J" } : Jvm.MethodName)) ∈ tblG := tm_0 (tm_t (tm_5 (List.mem_of_getElem? (i := 227) rfl))) rfl
theorem tw_1188 : (Jvm.Cond.instanceMethod ({ cls := "SettingsInLayersModel", name := "missing", desc := "(IIII)J" } : Jvm.MethodName)) ∈ tblG := tm_0 (tm_t (tm_5 (List.mem_of_getElem? (i := 228) rfl))) rfl
theorem tw_1189 : (Jvm.Cond.selects "SettingsInLayersModel" ({ cls := "SettingsInLayersModel", name := "missing", desc := "(IIII)J" } : Jvm.MethodName) ({ cls := "SettingsInLayersModel", name := "missing", desc := "(IIII)J" } : Jvm.MethodName)) ∈ tblG := tm_0 (tm_t (tm_5 (List.mem_of_getElem? (i := 229) rfl))) rfl
theorem tw_1190 : (Jvm.Cond.code ({ cls := "SettingsInLayersModel", name := "missing", desc := "(IIII)J" } : Jvm.MethodName) prog_10_method_71_code (14 : Nat) (Option.some Jvm.ClassFile.FieldType.long)) ∈ tblG := tm_0 (tm_t (tm_5 (List.mem_of_getElem? (i := 230) rfl))) rfl
theorem tw_1191 : (Jvm.Cond.methodLink "SettingsInLayersModel" (238 : Nat) ({ cls := "SettingsInLayersModel", name := "noLong", desc := "(I)J" } : Jvm.MethodName)) ∈ tblG := tm_0 (tm_t (tm_5 (List.mem_of_getElem? (i := 231) rfl))) rfl
theorem tw_1193 : (Jvm.Cond.instanceMethod ({ cls := "SettingsInLayersModel", name := "noLong", desc := "(I)J" } : Jvm.MethodName)) ∈ tblG := tm_0 (tm_t (tm_5 (List.mem_of_getElem? (i := 233) rfl))) rfl
theorem tw_1194 : (Jvm.Cond.code ({ cls := "SettingsInLayersModel", name := "noLong", desc := "(I)J" } : Jvm.MethodName) prog_10_method_3_code (2 : Nat) (Option.some Jvm.ClassFile.FieldType.long)) ∈ tblG := tm_0 (tm_t (tm_5 (List.mem_of_getElem? (i := 234) rfl))) rfl
theorem tw_1195 : (Jvm.Cond.constantLong "SettingsInLayersModel" (68 : Nat) (4000000000000000000 : Int64)) ∈ tblG := tm_0 (tm_t (tm_5 (List.mem_of_getElem? (i := 235) rfl))) rfl
theorem tw_1196 : (Jvm.Cond.methodLink "SettingsInLayersModel" (242 : Nat) ({ cls := "SettingsInLayersModel", name := "part", desc := "(JJI)J" } : Jvm.MethodName)) ∈ tblG := tm_0 (tm_t (tm_5 (List.mem_of_getElem? (i := 236) rfl))) rfl
theorem tw_1197 : (Jvm.Cond.static ({ cls := "SettingsInLayersModel", name := "part", desc := "(JJI)J" } : Jvm.MethodName)) ∈ tblG := tm_0 (tm_t (tm_5 (List.mem_of_getElem? (i := 237) rfl))) rfl
theorem tw_1198 : (Jvm.Cond.code ({ cls := "SettingsInLayersModel", name := "part", desc := "(JJI)J" } : Jvm.MethodName) prog_10_method_70_code (5 : Nat) (Option.some Jvm.ClassFile.FieldType.long)) ∈ tblG := tm_0 (tm_t (tm_5 (List.mem_of_getElem? (i := 238) rfl))) rfl
theorem tw_1199 : (Jvm.Cond.methodLink "SettingsInLayersModel" (234 : Nat) ({ cls := "SettingsInLayersModel", name := "common", desc := "(JJ)J" } : Jvm.MethodName)) ∈ tblG := tm_0 (tm_t (tm_5 (List.mem_of_getElem? (i := 239) rfl))) rfl
theorem tw_1200 : (Jvm.Cond.static ({ cls := "SettingsInLayersModel", name := "common", desc := "(JJ)J" } : Jvm.MethodName)) ∈ tblG := tm_0 (tm_t (tm_6 (List.mem_of_getElem? (i := 0) rfl))) rfl
theorem tw_1201 : (Jvm.Cond.code ({ cls := "SettingsInLayersModel", name := "common", desc := "(JJ)J" } : Jvm.MethodName) prog_10_method_69_code (4 : Nat) (Option.some Jvm.ClassFile.FieldType.long)) ∈ tblG := tm_0 (tm_t (tm_6 (List.mem_of_getElem? (i := 1) rfl))) rfl
theorem tw_1202 : (Jvm.Cond.methodLink "SettingsInLayersLaw" (127 : Nat) ({ cls := "SettingsInLayersModel", name := "mean", desc := "(I)J" } : Jvm.MethodName)) ∈ tblG := tm_0 (tm_t (tm_6 (List.mem_of_getElem? (i := 2) rfl))) rfl
theorem tw_1203 : (Jvm.Cond.instanceMethod ({ cls := "SettingsInLayersModel", name := "mean", desc := "(I)J" } : Jvm.MethodName)) ∈ tblG := tm_0 (tm_t (tm_6 (List.mem_of_getElem? (i := 3) rfl))) rfl
theorem tw_1204 : (Jvm.Cond.selects "SettingsInLayersModel" ({ cls := "SettingsInLayersModel", name := "mean", desc := "(I)J" } : Jvm.MethodName) ({ cls := "SettingsInLayersModel", name := "mean", desc := "(I)J" } : Jvm.MethodName)) ∈ tblG := tm_0 (tm_t (tm_6 (List.mem_of_getElem? (i := 4) rfl))) rfl
theorem tw_1205 : (Jvm.Cond.code ({ cls := "SettingsInLayersModel", name := "mean", desc := "(I)J" } : Jvm.MethodName) prog_10_method_73_code (3 : Nat) (Option.some Jvm.ClassFile.FieldType.long)) ∈ tblG := tm_0 (tm_t (tm_6 (List.mem_of_getElem? (i := 5) rfl))) rfl
theorem tw_1206 : (Jvm.Cond.methodLink "SettingsInLayersModel" (246 : Nat) ({ cls := "SettingsInLayersModel", name := "sum", desc := "()I" } : Jvm.MethodName)) ∈ tblG := tm_0 (tm_t (tm_6 (List.mem_of_getElem? (i := 6) rfl))) rfl
theorem tw_1208 : (Jvm.Cond.instanceMethod ({ cls := "SettingsInLayersModel", name := "sum", desc := "()I" } : Jvm.MethodName)) ∈ tblG := tm_0 (tm_t (tm_6 (List.mem_of_getElem? (i := 8) rfl))) rfl
theorem tw_1209 : (Jvm.Cond.code ({ cls := "SettingsInLayersModel", name := "sum", desc := "()I" } : Jvm.MethodName) prog_10_method_72_code (4 : Nat) (Option.some Jvm.ClassFile.FieldType.int)) ∈ tblG := tm_0 (tm_t (tm_6 (List.mem_of_getElem? (i := 9) rfl))) rfl
theorem tw_1210 : (Jvm.Cond.methodLink "SettingsInLayersLaw" (131 : Nat) ({ cls := "SettingsInLayersModel", name := "whatIs", desc := "(II)I" } : Jvm.MethodName)) ∈ tblG := tm_0 (tm_t (tm_6 (List.mem_of_getElem? (i := 10) rfl))) rfl
theorem tw_1211 : (Jvm.Cond.instanceMethod ({ cls := "SettingsInLayersModel", name := "whatIs", desc := "(II)I" } : Jvm.MethodName)) ∈ tblG := tm_0 (tm_t (tm_6 (List.mem_of_getElem? (i := 11) rfl))) rfl
theorem tw_1212 : (Jvm.Cond.selects "SettingsInLayersModel" ({ cls := "SettingsInLayersModel", name := "whatIs", desc := "(II)I" } : Jvm.MethodName) ({ cls := "SettingsInLayersModel", name := "whatIs", desc := "(II)I" } : Jvm.MethodName)) ∈ tblG := tm_0 (tm_t (tm_6 (List.mem_of_getElem? (i := 12) rfl))) rfl
theorem tw_1213 : (Jvm.Cond.code ({ cls := "SettingsInLayersModel", name := "whatIs", desc := "(II)I" } : Jvm.MethodName) prog_10_method_76_code (7 : Nat) (Option.some Jvm.ClassFile.FieldType.int)) ∈ tblG := tm_0 (tm_t (tm_6 (List.mem_of_getElem? (i := 13) rfl))) rfl
theorem tw_1214 : (Jvm.Cond.methodLink "SettingsInLayersModel" (255 : Nat) ({ cls := "SettingsInLayersModel", name := "wrongInRow", desc := "()I" } : Jvm.MethodName)) ∈ tblG := tm_0 (tm_t (tm_6 (List.mem_of_getElem? (i := 14) rfl))) rfl
theorem tw_1216 : (Jvm.Cond.instanceMethod ({ cls := "SettingsInLayersModel", name := "wrongInRow", desc := "()I" } : Jvm.MethodName)) ∈ tblG := tm_0 (tm_t (tm_6 (List.mem_of_getElem? (i := 16) rfl))) rfl
theorem tw_1217 : (Jvm.Cond.code ({ cls := "SettingsInLayersModel", name := "wrongInRow", desc := "()I" } : Jvm.MethodName) prog_10_method_75_code (2 : Nat) (Option.some Jvm.ClassFile.FieldType.int)) ∈ tblG := tm_0 (tm_t (tm_6 (List.mem_of_getElem? (i := 17) rfl))) rfl
theorem tw_1218 : (Jvm.Cond.methodLink "SettingsInLayersModel" (252 : Nat) ({ cls := "SettingsInLayersModel", name := "isTold", desc := "(I)Z" } : Jvm.MethodName)) ∈ tblG := tm_0 (tm_t (tm_6 (List.mem_of_getElem? (i := 18) rfl))) rfl
theorem tw_1220 : (Jvm.Cond.instanceMethod ({ cls := "SettingsInLayersModel", name := "isTold", desc := "(I)Z" } : Jvm.MethodName)) ∈ tblG := tm_0 (tm_t (tm_6 (List.mem_of_getElem? (i := 20) rfl))) rfl
theorem tw_1221 : (Jvm.Cond.code ({ cls := "SettingsInLayersModel", name := "isTold", desc := "(I)Z" } : Jvm.MethodName) prog_10_method_74_code (3 : Nat) (Option.some Jvm.ClassFile.FieldType.boolean)) ∈ tblG := tm_0 (tm_t (tm_6 (List.mem_of_getElem? (i := 21) rfl))) rfl
theorem tw_1222 : (Jvm.Cond.methodLink "SettingsInLayersLaw" (135 : Nat) ({ cls := "SettingsInLayersModel", name := "row", desc := "(I)I" } : Jvm.MethodName)) ∈ tblG := tm_0 (tm_t (tm_6 (List.mem_of_getElem? (i := 22) rfl))) rfl
theorem tw_1223 : (Jvm.Cond.instanceMethod ({ cls := "SettingsInLayersModel", name := "row", desc := "(I)I" } : Jvm.MethodName)) ∈ tblG := tm_0 (tm_t (tm_6 (List.mem_of_getElem? (i := 23) rfl))) rfl
theorem tw_1224 : (Jvm.Cond.selects "SettingsInLayersModel" ({ cls := "SettingsInLayersModel", name := "row", desc := "(I)I" } : Jvm.MethodName) ({ cls := "SettingsInLayersModel", name := "row", desc := "(I)I" } : Jvm.MethodName)) ∈ tblG := tm_0 (tm_t (tm_6 (List.mem_of_getElem? (i := 24) rfl))) rfl
theorem tw_1225 : (Jvm.Cond.code ({ cls := "SettingsInLayersModel", name := "row", desc := "(I)I" } : Jvm.MethodName) prog_10_method_77_code (2 : Nat) (Option.some Jvm.ClassFile.FieldType.int)) ∈ tblG := tm_0 (tm_t (tm_6 (List.mem_of_getElem? (i := 25) rfl))) rfl
theorem tw_1226 : (Jvm.Cond.methodLink "SettingsInLayersLaw" (139 : Nat) ({ cls := "SettingsInLayersModel", name := "judge", desc := "()I" } : Jvm.MethodName)) ∈ tblG := tm_0 (tm_t (tm_6 (List.mem_of_getElem? (i := 26) rfl))) rfl
theorem tw_1227 : (Jvm.Cond.instanceMethod ({ cls := "SettingsInLayersModel", name := "judge", desc := "()I" } : Jvm.MethodName)) ∈ tblG := tm_0 (tm_t (tm_6 (List.mem_of_getElem? (i := 27) rfl))) rfl
theorem tw_1228 : (Jvm.Cond.selects "SettingsInLayersModel" ({ cls := "SettingsInLayersModel", name := "judge", desc := "()I" } : Jvm.MethodName) ({ cls := "SettingsInLayersModel", name := "judge", desc := "()I" } : Jvm.MethodName)) ∈ tblG := tm_0 (tm_t (tm_6 (List.mem_of_getElem? (i := 28) rfl))) rfl
theorem tw_1229 : (Jvm.Cond.code ({ cls := "SettingsInLayersModel", name := "judge", desc := "()I" } : Jvm.MethodName) prog_10_method_78_code (2 : Nat) (Option.some Jvm.ClassFile.FieldType.int)) ∈ tblG := tm_0 (tm_t (tm_6 (List.mem_of_getElem? (i := 29) rfl))) rfl
theorem tw_1230 : (Jvm.Cond.methodLink "SettingsInLayersLaw" (143 : Nat) ({ cls := "SettingsInLayersModel", name := "clear", desc := "()I" } : Jvm.MethodName)) ∈ tblG := tm_0 (tm_t (tm_6 (List.mem_of_getElem? (i := 30) rfl))) rfl
theorem tw_1231 : (Jvm.Cond.instanceMethod ({ cls := "SettingsInLayersModel", name := "clear", desc := "()I" } : Jvm.MethodName)) ∈ tblG := tm_0 (tm_t (tm_6 (List.mem_of_getElem? (i := 31) rfl))) rfl
theorem tw_1232 : (Jvm.Cond.selects "SettingsInLayersModel" ({ cls := "SettingsInLayersModel", name := "clear", desc := "()I" } : Jvm.MethodName) ({ cls := "SettingsInLayersModel", name := "clear", desc := "()I" } : Jvm.MethodName)) ∈ tblG := tm_0 (tm_t (tm_6 (List.mem_of_getElem? (i := 32) rfl))) rfl
theorem tw_1233 : (Jvm.Cond.code ({ cls := "SettingsInLayersModel", name := "clear", desc := "()I" } : Jvm.MethodName) prog_10_method_79_code (2 : Nat) (Option.some Jvm.ClassFile.FieldType.int)) ∈ tblG := tm_0 (tm_t (tm_6 (List.mem_of_getElem? (i := 33) rfl))) rfl
theorem tw_1234 : (Jvm.Cond.methodLink "SettingsInLayersLaw" (147 : Nat) ({ cls := "SettingsInLayersModel", name := "lots", desc := "(III)I" } : Jvm.MethodName)) ∈ tblG := tm_0 (tm_t (tm_6 (List.mem_of_getElem? (i := 34) rfl))) rfl
theorem tw_1235 : (Jvm.Cond.instanceMethod ({ cls := "SettingsInLayersModel", name := "lots", desc := "(III)I" } : Jvm.MethodName)) ∈ tblG := tm_0 (tm_t (tm_6 (List.mem_of_getElem? (i := 35) rfl))) rfl
theorem tw_1236 : (Jvm.Cond.selects "SettingsInLayersModel" ({ cls := "SettingsInLayersModel", name := "lots", desc := "(III)I" } : Jvm.MethodName) ({ cls := "SettingsInLayersModel", name := "lots", desc := "(III)I" } : Jvm.MethodName)) ∈ tblG := tm_0 (tm_t (tm_6 (List.mem_of_getElem? (i := 36) rfl))) rfl
theorem tw_1237 : (Jvm.Cond.code ({ cls := "SettingsInLayersModel", name := "lots", desc := "(III)I" } : Jvm.MethodName) prog_10_method_81_code (9 : Nat) (Option.some Jvm.ClassFile.FieldType.int)) ∈ tblG := tm_0 (tm_t (tm_6 (List.mem_of_getElem? (i := 37) rfl))) rfl
theorem tw_1238 : (Jvm.Cond.methodLink "SettingsInLayersModel" (266 : Nat) ({ cls := "SettingsInLayersModel", name := "draw", desc := "(I)I" } : Jvm.MethodName)) ∈ tblG := tm_0 (tm_t (tm_6 (List.mem_of_getElem? (i := 38) rfl))) rfl
theorem tw_1240 : (Jvm.Cond.instanceMethod ({ cls := "SettingsInLayersModel", name := "draw", desc := "(I)I" } : Jvm.MethodName)) ∈ tblG := tm_0 (tm_t (tm_6 (List.mem_of_getElem? (i := 40) rfl))) rfl
theorem tw_1241 : (Jvm.Cond.code ({ cls := "SettingsInLayersModel", name := "draw", desc := "(I)I" } : Jvm.MethodName) prog_10_method_80_code (2 : Nat) (Option.some Jvm.ClassFile.FieldType.int)) ∈ tblG := tm_0 (tm_t (tm_6 (List.mem_of_getElem? (i := 41) rfl))) rfl
theorem tw_1242 : (Jvm.Cond.constant "SettingsInLayersModel" (261 : Nat) (1664525 : Int32)) ∈ tblG := tm_0 (tm_t (tm_6 (List.mem_of_getElem? (i := 42) rfl))) rfl
theorem tw_1243 : (Jvm.Cond.constant "SettingsInLayersModel" (262 : Nat) (1013904223 : Int32)) ∈ tblG := tm_0 (tm_t (tm_6 (List.mem_of_getElem? (i := 43) rfl))) rfl
theorem tw_1244 : (Jvm.Cond.constant "SettingsInLayersModel" (265 : Nat) (2147483647 : Int32)) ∈ tblG := tm_0 (tm_t (tm_6 (List.mem_of_getElem? (i := 44) rfl))) rfl
theorem tw_1245 : (Jvm.Cond.methodLink "SettingsInLayersLaw" (151 : Nat) ({ cls := "SettingsInLayersModel", name := "image", desc := "()I" } : Jvm.MethodName)) ∈ tblG := tm_0 (tm_t (tm_6 (List.mem_of_getElem? (i := 45) rfl))) rfl
theorem tw_1246 : (Jvm.Cond.instanceMethod ({ cls := "SettingsInLayersModel", name := "image", desc := "()I" } : Jvm.MethodName)) ∈ tblG := tm_0 (tm_t (tm_6 (List.mem_of_getElem? (i := 46) rfl))) rfl
theorem tw_1247 : (Jvm.Cond.selects "SettingsInLayersModel" ({ cls := "SettingsInLayersModel", name := "image", desc := "()I" } : Jvm.MethodName) ({ cls := "SettingsInLayersModel", name := "image", desc := "()I" } : Jvm.MethodName)) ∈ tblG := tm_0 (tm_t (tm_6 (List.mem_of_getElem? (i := 47) rfl))) rfl
theorem tw_1248 : (Jvm.Cond.code ({ cls := "SettingsInLayersModel", name := "image", desc := "()I" } : Jvm.MethodName) prog_10_method_83_code (1 : Nat) (Option.some Jvm.ClassFile.FieldType.int)) ∈ tblG := tm_0 (tm_t (tm_6 (List.mem_of_getElem? (i := 48) rfl))) rfl
theorem tw_1249 : (Jvm.Cond.methodLink "SettingsInLayersModel" (269 : Nat) ({ cls := "SettingsInLayersModel", name := "entries", desc := "()I" } : Jvm.MethodName)) ∈ tblG := tm_0 (tm_t (tm_6 (List.mem_of_getElem? (i := 49) rfl))) rfl
theorem tw_1251 : (Jvm.Cond.instanceMethod ({ cls := "SettingsInLayersModel", name := "entries", desc := "()I" } : Jvm.MethodName)) ∈ tblG := tm_0 (tm_t (tm_6 (List.mem_of_getElem? (i := 51) rfl))) rfl
theorem tw_1252 : (Jvm.Cond.code ({ cls := "SettingsInLayersModel", name := "entries", desc := "()I" } : Jvm.MethodName) prog_10_method_82_code (3 : Nat) (Option.some Jvm.ClassFile.FieldType.int)) ∈ tblG := tm_0 (tm_t (tm_6 (List.mem_of_getElem? (i := 52) rfl))) rfl
theorem tw_1253 : (Jvm.Cond.methodLink "SettingsInLayersLaw" (155 : Nat) ({ cls := "SettingsInLayersModel", name := "on", desc := "()I" } : Jvm.MethodName)) ∈ tblG := tm_0 (tm_t (tm_6 (List.mem_of_getElem? (i := 53) rfl))) rfl
theorem tw_1254 : (Jvm.Cond.instanceMethod ({ cls := "SettingsInLayersModel", name := "on", desc := "()I" } : Jvm.MethodName)) ∈ tblG := tm_0 (tm_t (tm_6 (List.mem_of_getElem? (i := 54) rfl))) rfl
theorem tw_1255 : (Jvm.Cond.selects "SettingsInLayersModel" ({ cls := "SettingsInLayersModel", name := "on", desc := "()I" } : Jvm.MethodName) ({ cls := "SettingsInLayersModel", name := "on", desc := "()I" } : Jvm.MethodName)) ∈ tblG := tm_0 (tm_t (tm_6 (List.mem_of_getElem? (i := 55) rfl))) rfl
theorem tw_1256 : (Jvm.Cond.code ({ cls := "SettingsInLayersModel", name := "on", desc := "()I" } : Jvm.MethodName) prog_10_method_84_code (1 : Nat) (Option.some Jvm.ClassFile.FieldType.int)) ∈ tblG := tm_0 (tm_t (tm_6 (List.mem_of_getElem? (i := 56) rfl))) rfl
theorem tw_1257 : (Jvm.Cond.methodLink "SettingsInLayersLaw" (159 : Nat) ({ cls := "SettingsInLayersModel", name := "count", desc := "(I)I" } : Jvm.MethodName)) ∈ tblG := tm_0 (tm_t (tm_6 (List.mem_of_getElem? (i := 57) rfl))) rfl
theorem tw_1258 : (Jvm.Cond.instanceMethod ({ cls := "SettingsInLayersModel", name := "count", desc := "(I)I" } : Jvm.MethodName)) ∈ tblG := tm_0 (tm_t (tm_6 (List.mem_of_getElem? (i := 58) rfl))) rfl
theorem tw_1259 : (Jvm.Cond.selects "SettingsInLayersModel" ({ cls := "SettingsInLayersModel", name := "count", desc := "(I)I" } : Jvm.MethodName) ({ cls := "SettingsInLayersModel", name := "count", desc := "(I)I" } : Jvm.MethodName)) ∈ tblG := tm_0 (tm_t (tm_6 (List.mem_of_getElem? (i := 59) rfl))) rfl
theorem tw_1260 : (Jvm.Cond.code ({ cls := "SettingsInLayersModel", name := "count", desc := "(I)I" } : Jvm.MethodName) prog_10_method_85_code (4 : Nat) (Option.some Jvm.ClassFile.FieldType.int)) ∈ tblG := tm_0 (tm_t (tm_6 (List.mem_of_getElem? (i := 60) rfl))) rfl
theorem tp_0 : Cond.selects "SettingsInLayers$Scene" ⟨"SettingsInLayers$Scene", "arrange", "()V"⟩ ⟨"SettingsInLayers$Scene", "arrange", "()V"⟩ ∈ tblG := tm_0 (List.mem_append_left _ (List.mem_of_getElem? (i := 0) rfl)) rfl
theorem tp_1 : Cond.selects "SettingsInLayers" ⟨"SettingsInLayers", "refuse", "(I)I"⟩ ⟨"SettingsInLayers", "refuse", "(I)I"⟩ ∈ tblG := tm_0 (List.mem_append_left _ (List.mem_of_getElem? (i := 1) rfl)) rfl
theorem tp_2 : Cond.selects "SettingsInLayers$Told" ⟨"SettingsInLayers$Told", "letterHere", "()I"⟩ ⟨"SettingsInLayers$Told", "letterHere", "()I"⟩ ∈ tblG := tm_0 (List.mem_append_left _ (List.mem_of_getElem? (i := 2) rfl)) rfl
theorem tp_3 : Cond.selects "SettingsInLayers$Told" ⟨"SettingsInLayers$Told", "readLayer", "()Z"⟩ ⟨"SettingsInLayers$Told", "readLayer", "()Z"⟩ ∈ tblG := tm_0 (List.mem_append_left _ (List.mem_of_getElem? (i := 3) rfl)) rfl
theorem tp_4 : Cond.selects "SettingsInLayers$Told" ⟨"SettingsInLayers$Told", "readDigit", "()I"⟩ ⟨"SettingsInLayers$Told", "readDigit", "()I"⟩ ∈ tblG := tm_0 (List.mem_append_left _ (List.mem_of_getElem? (i := 4) rfl)) rfl
theorem tp_5 : Cond.selects "SettingsInLayers$Told" ⟨"SettingsInLayers$Told", "readKind", "()Z"⟩ ⟨"SettingsInLayers$Told", "readKind", "()Z"⟩ ∈ tblG := tm_0 (List.mem_append_left _ (List.mem_of_getElem? (i := 5) rfl)) rfl
theorem tp_6 : Cond.selects "SettingsInLayers$Told" ⟨"SettingsInLayers$Told", "readFigure", "()Z"⟩ ⟨"SettingsInLayers$Told", "readFigure", "()Z"⟩ ∈ tblG := tm_0 (List.mem_append_left _ (List.mem_of_getElem? (i := 6) rfl)) rfl
theorem tp_7 : Cond.selects "SettingsInLayers$Told" ⟨"SettingsInLayers$Told", "readSign", "(C)Z"⟩ ⟨"SettingsInLayers$Told", "readSign", "(C)Z"⟩ ∈ tblG := tm_0 (List.mem_append_left _ (List.mem_of_getElem? (i := 7) rfl)) rfl
theorem tp_8 : Cond.selects "SettingsInLayers$Told" ⟨"SettingsInLayers$Told", "readKey", "()Z"⟩ ⟨"SettingsInLayers$Told", "readKey", "()Z"⟩ ∈ tblG := tm_0 (List.mem_append_left _ (List.mem_of_getElem? (i := 8) rfl)) rfl
theorem tp_9 : Cond.selects "SettingsInLayers$Told" ⟨"SettingsInLayers$Told", "readKeyLetter", "()I"⟩ ⟨"SettingsInLayers$Told", "readKeyLetter", "()I"⟩ ∈ tblG := tm_0 (List.mem_append_left _ (List.mem_of_getElem? (i := 9) rfl)) rfl
theorem tp_10 : Cond.selects "SettingsInLayers$Told" ⟨"SettingsInLayers$Told", "readEntry", "()Z"⟩ ⟨"SettingsInLayers$Told", "readEntry", "()Z"⟩ ∈ tblG := tm_0 (List.mem_append_left _ (List.mem_of_getElem? (i := 10) rfl)) rfl
theorem tp_11 : Cond.selects "SettingsInLayers$Told" ⟨"SettingsInLayers$Told", "readNumber", "()Z"⟩ ⟨"SettingsInLayers$Told", "readNumber", "()Z"⟩ ∈ tblG := tm_0 (List.mem_append_left _ (List.mem_of_getElem? (i := 11) rfl)) rfl
theorem tp_12 : Cond.selects "SettingsInLayers$Told" ⟨"SettingsInLayers$Told", "readPair", "()I"⟩ ⟨"SettingsInLayers$Told", "readPair", "()I"⟩ ∈ tblG := tm_0 (List.mem_append_left _ (List.mem_of_getElem? (i := 12) rfl)) rfl
theorem tp_13 : Cond.selects "SettingsInLayers$Told" ⟨"SettingsInLayers$Told", "readItems", "()Z"⟩ ⟨"SettingsInLayers$Told", "readItems", "()Z"⟩ ∈ tblG := tm_0 (List.mem_append_left _ (List.mem_of_getElem? (i := 13) rfl)) rfl
theorem tp_14 : Cond.selects "SettingsInLayers$Told" ⟨"SettingsInLayers$Told", "readOther", "()Z"⟩ ⟨"SettingsInLayers$Told", "readOther", "()Z"⟩ ∈ tblG := tm_0 (List.mem_append_left _ (List.mem_of_getElem? (i := 14) rfl)) rfl
theorem tp_15 : Cond.selects "SettingsInLayers$Told" ⟨"SettingsInLayers$Told", "readManner", "()Z"⟩ ⟨"SettingsInLayers$Told", "readManner", "()Z"⟩ ∈ tblG := tm_0 (List.mem_append_left _ (List.mem_of_getElem? (i := 15) rfl)) rfl
theorem tp_16 : Cond.selects "SettingsInLayers" ⟨"SettingsInLayers", "applyTold", "()I"⟩ ⟨"SettingsInLayers", "applyTold", "()I"⟩ ∈ tblG := tm_0 (List.mem_append_left _ (List.mem_of_getElem? (i := 16) rfl)) rfl
theorem tp_17 : Cond.selects "SettingsInLayers$Statement" ⟨"SettingsInLayers$Statement", "applyKind", "(LSettingsInLayers$Scene;)Z"⟩ ⟨"SettingsInLayers$Statement", "applyKind", "(LSettingsInLayers$Scene;)Z"⟩ ∈ tblG := tm_0 (List.mem_append_left _ (List.mem_of_getElem? (i := 17) rfl)) rfl
theorem tp_18 : Cond.selects "SettingsInLayers$Statement" ⟨"SettingsInLayers$Statement", "applyToggle", "(LSettingsInLayers$Scene;)Z"⟩ ⟨"SettingsInLayers$Statement", "applyToggle", "(LSettingsInLayers$Scene;)Z"⟩ ∈ tblG := tm_0 (List.mem_append_left _ (List.mem_of_getElem? (i := 18) rfl)) rfl
theorem tp_19 : Cond.selects "SettingsInLayers$Statement" ⟨"SettingsInLayers$Statement", "applyEntry", "(LSettingsInLayers$Scene;)Z"⟩ ⟨"SettingsInLayers$Statement", "applyEntry", "(LSettingsInLayers$Scene;)Z"⟩ ∈ tblG := tm_0 (List.mem_append_left _ (List.mem_of_getElem? (i := 19) rfl)) rfl
theorem tp_20 : Cond.selects "SettingsInLayers$Statement" ⟨"SettingsInLayers$Statement", "applyDrop", "(LSettingsInLayers$Scene;)Z"⟩ ⟨"SettingsInLayers$Statement", "applyDrop", "(LSettingsInLayers$Scene;)Z"⟩ ∈ tblG := tm_0 (List.mem_append_left _ (List.mem_of_getElem? (i := 20) rfl)) rfl
theorem tp_21 : Cond.selects "SettingsInLayers$Statement" ⟨"SettingsInLayers$Statement", "applyManner", "(LSettingsInLayers$Scene;)Z"⟩ ⟨"SettingsInLayers$Statement", "applyManner", "(LSettingsInLayers$Scene;)Z"⟩ ∈ tblG := tm_0 (List.mem_append_left _ (List.mem_of_getElem? (i := 21) rfl)) rfl
theorem tp_22 : Cond.selects "SettingsInLayers" ⟨"SettingsInLayers", "replace", "(IIIII)I"⟩ ⟨"SettingsInLayers", "replace", "(IIIII)I"⟩ ∈ tblG := tm_0 (List.mem_append_left _ (List.mem_of_getElem? (i := 22) rfl)) rfl
theorem tp_23 : Cond.selects "SettingsInLayers" ⟨"SettingsInLayers", "noEntry", "(II)Z"⟩ ⟨"SettingsInLayers", "noEntry", "(II)Z"⟩ ∈ tblG := tm_0 (List.mem_append_left _ (List.mem_of_getElem? (i := 23) rfl)) rfl
theorem tp_24 : Cond.selects "SettingsInLayers$Resolver" ⟨"SettingsInLayers$Resolver", "resolve", "(II)Z"⟩ ⟨"SettingsInLayers$Resolver", "resolve", "(II)Z"⟩ ∈ tblG := tm_0 (List.mem_append_left _ (List.mem_of_getElem? (i := 24) rfl)) rfl
theorem tp_25 : Cond.selects "SettingsInLayers$Resolver" ⟨"SettingsInLayers$Resolver", "fail", "(II)Z"⟩ ⟨"SettingsInLayers$Resolver", "fail", "(II)Z"⟩ ∈ tblG := tm_0 (List.mem_append_left _ (List.mem_of_getElem? (i := 25) rfl)) rfl
theorem tp_26 : Cond.selects "SettingsInLayers$Resolver" ⟨"SettingsInLayers$Resolver", "gatherOffers", "(ILSettingsInLayers$Outcome;)V"⟩ ⟨"SettingsInLayers$Resolver", "gatherOffers", "(ILSettingsInLayers$Outcome;)V"⟩ ∈ tblG := tm_0 (List.mem_append_left _ (List.mem_of_getElem? (i := 26) rfl)) rfl
theorem tp_27 : Cond.selects "SettingsInLayers$Resolver" ⟨"SettingsInLayers$Resolver", "counts", "(III)Z"⟩ ⟨"SettingsInLayers$Resolver", "counts", "(III)Z"⟩ ∈ tblG := tm_0 (List.mem_append_left _ (List.mem_of_getElem? (i := 27) rfl)) rfl
theorem tp_28 : Cond.selects "SettingsInLayers$Resolver" ⟨"SettingsInLayers$Resolver", "merge", "(II)Z"⟩ ⟨"SettingsInLayers$Resolver", "merge", "(II)Z"⟩ ∈ tblG := tm_0 (List.mem_append_left _ (List.mem_of_getElem? (i := 28) rfl)) rfl
theorem tp_29 : Cond.selects "SettingsInLayers$Resolver" ⟨"SettingsInLayers$Resolver", "make", "(III)Z"⟩ ⟨"SettingsInLayers$Resolver", "make", "(III)Z"⟩ ∈ tblG := tm_0 (List.mem_append_left _ (List.mem_of_getElem? (i := 29) rfl)) rfl
theorem tp_30 : Cond.selects "SettingsInLayers$Resolver" ⟨"SettingsInLayers$Resolver", "copyEntry", "(ILSettingsInLayers$Outcome;)V"⟩ ⟨"SettingsInLayers$Resolver", "copyEntry", "(ILSettingsInLayers$Outcome;)V"⟩ ∈ tblG := tm_0 (List.mem_append_left _ (List.mem_of_getElem? (i := 30) rfl)) rfl
theorem tp_31 : Cond.selects "SettingsInLayers$Resolver" ⟨"SettingsInLayers$Resolver", "take", "(III)I"⟩ ⟨"SettingsInLayers$Resolver", "take", "(III)I"⟩ ∈ tblG := tm_0 (List.mem_append_left _ (List.mem_of_getElem? (i := 31) rfl)) rfl
theorem tp_32 : Cond.selects "SettingsInLayers$Outcome" ⟨"SettingsInLayers$Outcome", "takeSource", "(ILSettingsInLayers$Outcome;)V"⟩ ⟨"SettingsInLayers$Outcome", "takeSource", "(ILSettingsInLayers$Outcome;)V"⟩ ∈ tblG := tm_0 (List.mem_append_left _ (List.mem_of_getElem? (i := 32) rfl)) rfl
theorem tp_33 : Cond.selects "SettingsInLayers$Outcome" ⟨"SettingsInLayers$Outcome", "takeItem", "(III)Z"⟩ ⟨"SettingsInLayers$Outcome", "takeItem", "(III)Z"⟩ ∈ tblG := tm_0 (List.mem_append_left _ (List.mem_of_getElem? (i := 33) rfl)) rfl
theorem tp_34 : Cond.selects "SettingsInLayers" ⟨"SettingsInLayers", "usedBy", "(I)I"⟩ ⟨"SettingsInLayers", "usedBy", "(I)I"⟩ ∈ tblG := tm_0 (List.mem_append_left _ (List.mem_of_getElem? (i := 34) rfl)) rfl
theorem tp_35 : Cond.selects "SettingsInLayers" ⟨"SettingsInLayers", "keepPresent", "()V"⟩ ⟨"SettingsInLayers", "keepPresent", "()V"⟩ ∈ tblG := tm_0 (List.mem_append_left _ (List.mem_of_getElem? (i := 35) rfl)) rfl
theorem tp_36 : Cond.selects "SettingsInLayers" ⟨"SettingsInLayers", "isPresentBy", "(I)Z"⟩ ⟨"SettingsInLayers", "isPresentBy", "(I)Z"⟩ ∈ tblG := tm_0 (List.mem_append_left _ (List.mem_of_getElem? (i := 36) rfl)) rfl
theorem tp_37 : Cond.selects "SettingsInLayers" ⟨"SettingsInLayers", "refuseLong", "(I)J"⟩ ⟨"SettingsInLayers", "refuseLong", "(I)J"⟩ ∈ tblG := tm_0 (List.mem_append_left _ (List.mem_of_getElem? (i := 37) rfl)) rfl
theorem tp_38 : Cond.selects "SettingsInLayers" ⟨"SettingsInLayers", "firstNotSo", "(LSettingsInLayers$Scene;)I"⟩ ⟨"SettingsInLayers", "firstNotSo", "(LSettingsInLayers$Scene;)I"⟩ ∈ tblG := tm_0 (List.mem_append_left _ (List.mem_of_getElem? (i := 38) rfl)) rfl
theorem tp_39 : Cond.selects "SettingsInLayers" ⟨"SettingsInLayers", "drawTrial", "()V"⟩ ⟨"SettingsInLayers", "drawTrial", "()V"⟩ ∈ tblG := tm_0 (List.mem_append_left _ (List.mem_of_getElem? (i := 39) rfl)) rfl
theorem tp_40 : Cond.selects "SettingsInLayers" ⟨"SettingsInLayers", "numbersTogether", "(LSettingsInLayers$Scene;)I"⟩ ⟨"SettingsInLayers", "numbersTogether", "(LSettingsInLayers$Scene;)I"⟩ ∈ tblG := tm_0 (List.mem_append_left _ (List.mem_of_getElem? (i := 40) rfl)) rfl
theorem tp_41 : Cond.selects "SettingsInLayers" ⟨"SettingsInLayers", "faultBits", "(LSettingsInLayers$Scene;)I"⟩ ⟨"SettingsInLayers", "faultBits", "(LSettingsInLayers$Scene;)I"⟩ ∈ tblG := tm_0 (List.mem_append_left _ (List.mem_of_getElem? (i := 41) rfl)) rfl
theorem tp_42 : Cond.selects "SettingsInLayersModel" ⟨"SettingsInLayersModel", "no", "(I)I"⟩ ⟨"SettingsInLayersModel", "no", "(I)I"⟩ ∈ tblG := tm_0 (List.mem_append_left _ (List.mem_of_getElem? (i := 42) rfl)) rfl
theorem tp_43 : Cond.selects "SettingsInLayersModel" ⟨"SettingsInLayersModel", "tell", "(IIIII)I"⟩ ⟨"SettingsInLayersModel", "tell", "(IIIII)I"⟩ ∈ tblG := tm_0 (List.mem_append_left _ (List.mem_of_getElem? (i := 43) rfl)) rfl
theorem tp_44 : Cond.selects "SettingsInLayersModel" ⟨"SettingsInLayersModel", "has", "(II)Z"⟩ ⟨"SettingsInLayersModel", "has", "(II)Z"⟩ ∈ tblG := tm_0 (List.mem_append_left _ (List.mem_of_getElem? (i := 44) rfl)) rfl
theorem tp_45 : Cond.selects "SettingsInLayersModel" ⟨"SettingsInLayersModel", "find", "(III)I"⟩ ⟨"SettingsInLayersModel", "find", "(III)I"⟩ ∈ tblG := tm_0 (List.mem_append_left _ (List.mem_of_getElem? (i := 45) rfl)) rfl
theorem tp_46 : Cond.selects "SettingsInLayersModel" ⟨"SettingsInLayersModel", "puts", "(IIII)V"⟩ ⟨"SettingsInLayersModel", "puts", "(IIII)V"⟩ ∈ tblG := tm_0 (List.mem_append_left _ (List.mem_of_getElem? (i := 46) rfl)) rfl
theorem tp_47 : Cond.selects "SettingsInLayersModel" ⟨"SettingsInLayersModel", "entries", "(I)I"⟩ ⟨"SettingsInLayersModel", "entries", "(I)I"⟩ ∈ tblG := tm_0 (List.mem_append_left _ (List.mem_of_getElem? (i := 47) rfl)) rfl
theorem tp_48 : Cond.selects "SettingsInLayersModel" ⟨"SettingsInLayersModel", "statement", "(Z)Z"⟩ ⟨"SettingsInLayersModel", "statement", "(Z)Z"⟩ ∈ tblG := tm_0 (List.mem_append_left _ (List.mem_of_getElem? (i := 48) rfl)) rfl
theorem tp_49 : Cond.selects "SettingsInLayersModel" ⟨"SettingsInLayersModel", "digit", "()I"⟩ ⟨"SettingsInLayersModel", "digit", "()I"⟩ ∈ tblG := tm_0 (List.mem_append_left _ (List.mem_of_getElem? (i := 49) rfl)) rfl
theorem tp_50 : Cond.selects "SettingsInLayersModel" ⟨"SettingsInLayersModel", "takes", "(II)I"⟩ ⟨"SettingsInLayersModel", "takes", "(II)I"⟩ ∈ tblG := tm_0 (List.mem_append_left _ (List.mem_of_getElem? (i := 50) rfl)) rfl
theorem tp_51 : Cond.selects "SettingsInLayersModel" ⟨"SettingsInLayersModel", "isAt", "(II)Z"⟩ ⟨"SettingsInLayersModel", "isAt", "(II)Z"⟩ ∈ tblG := tm_0 (List.mem_append_left _ (List.mem_of_getElem? (i := 51) rfl)) rfl
theorem tp_52 : Cond.selects "SettingsInLayersModel" ⟨"SettingsInLayersModel", "entry", "(IIZ)Z"⟩ ⟨"SettingsInLayersModel", "entry", "(IIZ)Z"⟩ ∈ tblG := tm_0 (List.mem_append_left _ (List.mem_of_getElem? (i := 52) rfl)) rfl
theorem tp_53 : Cond.selects "SettingsInLayersModel" ⟨"SettingsInLayersModel", "twoDigits", "()I"⟩ ⟨"SettingsInLayersModel", "twoDigits", "()I"⟩ ∈ tblG := tm_0 (List.mem_append_left _ (List.mem_of_getElem? (i := 53) rfl)) rfl
theorem tp_54 : Cond.selects "SettingsInLayersModel" ⟨"SettingsInLayersModel", "rank", "(I)I"⟩ ⟨"SettingsInLayersModel", "rank", "(I)I"⟩ ∈ tblG := tm_0 (List.mem_append_left _ (List.mem_of_getElem? (i := 54) rfl)) rfl
theorem tp_55 : Cond.selects "SettingsInLayersModel" ⟨"SettingsInLayersModel", "isBehind", "(II)Z"⟩ ⟨"SettingsInLayersModel", "isBehind", "(II)Z"⟩ ∈ tblG := tm_0 (List.mem_append_left _ (List.mem_of_getElem? (i := 55) rfl)) rfl
theorem tp_56 : Cond.selects "SettingsInLayersModel" ⟨"SettingsInLayersModel", "offers", "(I)I"⟩ ⟨"SettingsInLayersModel", "offers", "(I)I"⟩ ∈ tblG := tm_0 (List.mem_append_left _ (List.mem_of_getElem? (i := 56) rfl)) rfl
theorem tp_57 : Cond.selects "SettingsInLayersModel" ⟨"SettingsInLayersModel", "ordered", "(I)I"⟩ ⟨"SettingsInLayersModel", "ordered", "(I)I"⟩ ∈ tblG := tm_0 (List.mem_append_left _ (List.mem_of_getElem? (i := 57) rfl)) rfl
theorem tp_58 : Cond.selects "SettingsInLayersModel" ⟨"SettingsInLayersModel", "counts", "(II)Z"⟩ ⟨"SettingsInLayersModel", "counts", "(II)Z"⟩ ∈ tblG := tm_0 (List.mem_append_left _ (List.mem_of_getElem? (i := 58) rfl)) rfl
theorem tp_59 : Cond.selects "SettingsInLayersModel" ⟨"SettingsInLayersModel", "resolves", "(I)Z"⟩ ⟨"SettingsInLayersModel", "resolves", "(I)Z"⟩ ∈ tblG := tm_0 (List.mem_append_left _ (List.mem_of_getElem? (i := 59) rfl)) rfl
theorem tp_60 : Cond.selects "SettingsInLayersModel" ⟨"SettingsInLayersModel", "resolves", "(II)Z"⟩ ⟨"SettingsInLayersModel", "resolves", "(II)Z"⟩ ∈ tblG := tm_0 (List.mem_append_left _ (List.mem_of_getElem? (i := 60) rfl)) rfl
theorem tp_61 : Cond.selects "SettingsInLayersModel" ⟨"SettingsInLayersModel", "fails", "(II)Z"⟩ ⟨"SettingsInLayersModel", "fails", "(II)Z"⟩ ∈ tblG := tm_0 (List.mem_append_left _ (List.mem_of_getElem? (i := 61) rfl)) rfl
theorem tp_62 : Cond.selects "SettingsInLayersModel" ⟨"SettingsInLayersModel", "takes", "(III)Z"⟩ ⟨"SettingsInLayersModel", "takes", "(III)Z"⟩ ∈ tblG := tm_0 (List.mem_append_left _ (List.mem_of_getElem? (i := 62) rfl)) rfl
theorem tp_63 : Cond.selects "SettingsInLayersModel" ⟨"SettingsInLayersModel", "makes", "(III)Z"⟩ ⟨"SettingsInLayersModel", "makes", "(III)Z"⟩ ∈ tblG := tm_0 (List.mem_append_left _ (List.mem_of_getElem? (i := 63) rfl)) rfl
theorem tp_64 : Cond.selects "SettingsInLayersModel" ⟨"SettingsInLayersModel", "is", "(II)V"⟩ ⟨"SettingsInLayersModel", "is", "(II)V"⟩ ∈ tblG := tm_0 (List.mem_append_left _ (List.mem_of_getElem? (i := 64) rfl)) rfl
theorem tp_65 : Cond.selects "SettingsInLayersModel" ⟨"SettingsInLayersModel", "merges", "(III)Z"⟩ ⟨"SettingsInLayersModel", "merges", "(III)Z"⟩ ∈ tblG := tm_0 (List.mem_append_left _ (List.mem_of_getElem? (i := 65) rfl)) rfl
theorem tp_66 : Cond.selects "SettingsInLayersModel" ⟨"SettingsInLayersModel", "usesOf", "(I)I"⟩ ⟨"SettingsInLayersModel", "usesOf", "(I)I"⟩ ∈ tblG := tm_0 (List.mem_append_left _ (List.mem_of_getElem? (i := 66) rfl)) rfl
theorem tp_67 : Cond.selects "SettingsInLayersModel" ⟨"SettingsInLayersModel", "allSo", "(I)I"⟩ ⟨"SettingsInLayersModel", "allSo", "(I)I"⟩ ∈ tblG := tm_0 (List.mem_append_left _ (List.mem_of_getElem? (i := 67) rfl)) rfl
theorem tp_68 : Cond.selects "SettingsInLayersModel" ⟨"SettingsInLayersModel", "isSo", "(II)Z"⟩ ⟨"SettingsInLayersModel", "isSo", "(II)Z"⟩ ∈ tblG := tm_0 (List.mem_append_left _ (List.mem_of_getElem? (i := 68) rfl)) rfl
theorem tp_69 : Cond.selects "SettingsInLayersModel" ⟨"SettingsInLayersModel", "tells", "(I)V"⟩ ⟨"SettingsInLayersModel", "tells", "(I)V"⟩ ∈ tblG := tm_0 (List.mem_append_left _ (List.mem_of_getElem? (i := 69) rfl)) rfl
theorem tp_70 : Cond.selects "SettingsInLayersModel" ⟨"SettingsInLayersModel", "isLike", "(I)Z"⟩ ⟨"SettingsInLayersModel", "isLike", "(I)Z"⟩ ∈ tblG := tm_0 (List.mem_append_left _ (List.mem_of_getElem? (i := 70) rfl)) rfl
theorem tp_71 : Cond.selects "SettingsInLayersModel" ⟨"SettingsInLayersModel", "told", "(II)I"⟩ ⟨"SettingsInLayersModel", "told", "(II)I"⟩ ∈ tblG := tm_0 (List.mem_append_left _ (List.mem_of_getElem? (i := 71) rfl)) rfl
theorem tp_72 : Cond.selects "SettingsInLayersModel" ⟨"SettingsInLayersModel", "numberWith", "(III)I"⟩ ⟨"SettingsInLayersModel", "numberWith", "(III)I"⟩ ∈ tblG := tm_0 (List.mem_append_left _ (List.mem_of_getElem? (i := 72) rfl)) rfl
theorem tp_73 : Cond.selects "SettingsInLayersModel" ⟨"SettingsInLayersModel", "numberOf", "(I)I"⟩ ⟨"SettingsInLayersModel", "numberOf", "(I)I"⟩ ∈ tblG := tm_0 (List.mem_append_left _ (List.mem_of_getElem? (i := 73) rfl)) rfl
theorem tp_74 : Cond.selects "SettingsInLayersModel" ⟨"SettingsInLayersModel", "onNow", "()I"⟩ ⟨"SettingsInLayersModel", "onNow", "()I"⟩ ∈ tblG := tm_0 (List.mem_append_left _ (List.mem_of_getElem? (i := 74) rfl)) rfl
theorem tp_75 : Cond.selects "SettingsInLayersModel" ⟨"SettingsInLayersModel", "turnsTo", "(I)V"⟩ ⟨"SettingsInLayersModel", "turnsTo", "(I)V"⟩ ∈ tblG := tm_0 (List.mem_append_left _ (List.mem_of_getElem? (i := 75) rfl)) rfl
theorem tp_76 : Cond.selects "SettingsInLayersModel" ⟨"SettingsInLayersModel", "areLike", "()Z"⟩ ⟨"SettingsInLayersModel", "areLike", "()Z"⟩ ∈ tblG := tm_0 (List.mem_append_left _ (List.mem_of_getElem? (i := 76) rfl)) rfl
theorem tp_77 : Cond.selects "SettingsInLayersModel" ⟨"SettingsInLayersModel", "noLong", "(I)J"⟩ ⟨"SettingsInLayersModel", "noLong", "(I)J"⟩ ∈ tblG := tm_0 (List.mem_append_left _ (List.mem_of_getElem? (i := 77) rfl)) rfl
theorem tp_78 : Cond.selects "SettingsInLayersModel" ⟨"SettingsInLayersModel", "sum", "()I"⟩ ⟨"SettingsInLayersModel", "sum", "()I"⟩ ∈ tblG := tm_0 (List.mem_append_left _ (List.mem_of_getElem? (i := 78) rfl)) rfl
theorem tp_79 : Cond.selects "SettingsInLayersModel" ⟨"SettingsInLayersModel", "wrongInRow", "()I"⟩ ⟨"SettingsInLayersModel", "wrongInRow", "()I"⟩ ∈ tblG := tm_0 (List.mem_append_left _ (List.mem_of_getElem? (i := 79) rfl)) rfl
theorem tp_80 : Cond.selects "SettingsInLayersModel" ⟨"SettingsInLayersModel", "isTold", "(I)Z"⟩ ⟨"SettingsInLayersModel", "isTold", "(I)Z"⟩ ∈ tblG := tm_0 (List.mem_append_left _ (List.mem_of_getElem? (i := 80) rfl)) rfl
theorem tp_81 : Cond.selects "SettingsInLayersModel" ⟨"SettingsInLayersModel", "draw", "(I)I"⟩ ⟨"SettingsInLayersModel", "draw", "(I)I"⟩ ∈ tblG := tm_0 (List.mem_append_left _ (List.mem_of_getElem? (i := 81) rfl)) rfl
theorem tp_82 : Cond.selects "SettingsInLayersModel" ⟨"SettingsInLayersModel", "entries", "()I"⟩ ⟨"SettingsInLayersModel", "entries", "()I"⟩ ∈ tblG := tm_0 (List.mem_append_left _ (List.mem_of_getElem? (i := 82) rfl)) rfl
/-! methods: their words; stores into fields -/
theorem mf_J6_bitCount_0f7a4 : MF yJ6_bitCount_0f7a4 cJ6_bitCount_0f7a4 1 (some .int) 1 := ⟨tw_542, tw_12, by decide, by decide, by decide, by decide +kernel⟩
theorem mf_J7_fill_53178 : MF yJ7_fill_53178 cJ7_fill_53178 4 none 2 := ⟨tw_638, tw_13, by decide, by decide, by decide, by decide +kernel⟩
theorem mf_X0_below : MF yX0_below cX0_below 2 (some .int) 1 := ⟨tw_795, tw_8, by decide, by decide, by decide, by decide +kernel⟩
theorem mf_X0_init : MF yX0_init cX0_init 1 none 0 := ⟨tw_289, tw_8, by decide, by decide, by decide, by decide +kernel⟩
theorem mf_X1_addOffer : MF yX1_addOffer cX1_addOffer 2 none 1 := ⟨tw_592, tw_4, by decide, by decide, by decide, by decide +kernel⟩
theorem mf_X1_increase : MF yX1_increase cX1_increase 2 (some .int) 1 := ⟨tw_608, tw_4, by decide, by decide, by decide, by decide +kernel⟩
theorem mf_X1_init : MF yX1_init cX1_init 1 none 0 := ⟨tw_105, tw_4, by decide, by decide, by decide, by decide +kernel⟩
theorem mf_X1_isAlike : MF yX1_isAlike cX1_isAlike 4 (some .boolean) 3 := ⟨tw_693, tw_4, by decide, by decide, by decide, by decide +kernel⟩
theorem mf_X1_isInCycle : MF yX1_isInCycle cX1_isInCycle 3 (some .boolean) 1 := ⟨tw_678, tw_4, by decide, by decide, by decide, by decide +kernel⟩
theorem mf_X1_isLike : MF yX1_isLike cX1_isLike 2 (some .boolean) 1 := ⟨tw_690, tw_4, by decide, by decide, by decide, by decide +kernel⟩
theorem mf_X1_keep : MF yX1_keep cX1_keep 2 none 1 := ⟨tw_686, tw_4, by decide, by decide, by decide, by decide +kernel⟩
theorem mf_X1_numberOrNothing : MF yX1_numberOrNothing cX1_numberOrNothing 1 (some .int) 0 := ⟨tw_701, tw_4, by decide, by decide, by decide, by decide +kernel⟩
theorem mf_X1_offerLayer : MF yX1_offerLayer cX1_offerLayer 2 (some .int) 1 := ⟨tw_600, tw_4, by decide, by decide, by decide, by decide +kernel⟩
theorem mf_X1_reset : MF yX1_reset cX1_reset 1 none 0 := ⟨tw_574, tw_4, by decide, by decide, by decide, by decide +kernel⟩
theorem mf_X1_takeAlone : MF yX1_takeAlone cX1_takeAlone 3 (some .int) 2 := ⟨tw_634, tw_4, by decide, by decide, by decide, by decide +kernel⟩
theorem mf_X1_takeGreater : MF yX1_takeGreater cX1_takeGreater 4 (some .int) 2 := ⟨tw_630, tw_4, by decide, by decide, by decide, by decide +kernel⟩
theorem mf_X1_takeItem : MF yX1_takeItem cX1_takeItem 5 (some .boolean) 3 := ⟨tw_646, tw_4, by decide, by decide, by decide, by decide +kernel⟩
theorem mf_X1_takeItems : MF yX1_takeItems cX1_takeItems 4 (some .int) 2 := ⟨tw_642, tw_4, by decide, by decide, by decide, by decide +kernel⟩
theorem mf_X1_takeSource : MF yX1_takeSource cX1_takeSource 3 none 2 := ⟨tw_625, tw_4, by decide, by decide, by decide, by decide +kernel⟩
theorem mf_X1_takeToTotal : MF yX1_takeToTotal cX1_takeToTotal 3 (some .int) 2 := ⟨tw_621, tw_4, by decide, by decide, by decide, by decide +kernel⟩
theorem mf_X2_ask : MF yX2_ask cX2_ask 3 (some (.object RX1)) 2 := ⟨tw_566, tw_3, by decide, by decide, by decide, by decide +kernel⟩
theorem mf_X2_copyEntry : MF yX2_copyEntry cX2_copyEntry 4 none 2 := ⟨tw_612, tw_3, by decide, by decide, by decide, by decide +kernel⟩
theorem mf_X2_counts : MF yX2_counts cX2_counts 4 (some .boolean) 3 := ⟨tw_588, tw_3, by decide, by decide, by decide, by decide +kernel⟩
theorem mf_X2_fail : MF yX2_fail cX2_fail 5 (some .boolean) 2 := ⟨tw_578, tw_3, by decide, by decide, by decide, by decide +kernel⟩
theorem mf_X2_gatherOffers : MF yX2_gatherOffers cX2_gatherOffers 6 none 2 := ⟨tw_582, tw_3, by decide, by decide, by decide, by decide +kernel⟩
theorem mf_X2_init : MF yX2_init cX2_init 2 none 0 := ⟨tw_98, tw_3, by decide, by decide, by decide, by decide +kernel⟩
theorem mf_X2_make : MF yX2_make cX2_make 8 (some .boolean) 3 := ⟨tw_604, tw_3, by decide, by decide, by decide, by decide +kernel⟩
theorem mf_X2_merge : MF yX2_merge cX2_merge 10 (some .boolean) 2 := ⟨tw_596, tw_3, by decide, by decide, by decide, by decide +kernel⟩
theorem mf_X2_resolve : MF yX2_resolve cX2_resolve 5 (some .boolean) 2 := ⟨tw_570, tw_3, by decide, by decide, by decide, by decide +kernel⟩
theorem mf_X2_take : MF yX2_take cX2_take 6 (some .int) 3 := ⟨tw_617, tw_3, by decide, by decide, by decide, by decide +kernel⟩
theorem mf_X3_append : MF yX3_append cX3_append 2 (some .int) 1 := ⟨tw_775, tw_7, by decide, by decide, by decide, by decide +kernel⟩
theorem mf_X3_init : MF yX3_init cX3_init 1 none 0 := ⟨tw_275, tw_7, by decide, by decide, by decide, by decide +kernel⟩
theorem mf_X3_isOtherThan : MF yX3_isOtherThan cX3_isOtherThan 3 (some .boolean) 2 := ⟨tw_767, tw_7, by decide, by decide, by decide, by decide +kernel⟩
theorem mf_X4_addItem : MF yX4_addItem cX4_addItem 5 (some .int) 3 := ⟨tw_466, tw_2, by decide, by decide, by decide, by decide +kernel⟩
theorem mf_X4_arrange : MF yX4_arrange cX4_arrange 3 none 0 := ⟨tw_39, tw_2, by decide, by decide, by decide, by decide +kernel⟩
theorem mf_X4_become : MF yX4_become cX4_become 2 none 1 := ⟨tw_427, tw_2, by decide, by decide, by decide, by decide +kernel⟩
theorem mf_X4_entries : MF yX4_entries cX4_entries 3 (some .int) 0 := ⟨tw_817, tw_2, by decide, by decide, by decide, by decide +kernel⟩
theorem mf_X4_erase : MF yX4_erase cX4_erase 2 none 1 := ⟨tw_31, tw_2, by decide, by decide, by decide, by decide +kernel⟩
theorem mf_X4_hasItem : MF yX4_hasItem cX4_hasItem 4 (some .boolean) 2 := ⟨tw_516, tw_2, by decide, by decide, by decide, by decide +kernel⟩
theorem mf_X4_howManyBehind : MF yX4_howManyBehind cX4_howManyBehind 4 (some .int) 1 := ⟨tw_554, tw_2, by decide, by decide, by decide, by decide +kernel⟩
theorem mf_X4_init : MF yX4_init cX4_init 2 none 0 := ⟨tw_26, tw_2, by decide, by decide, by decide, by decide +kernel⟩
theorem mf_X4_isOn : MF yX4_isOn cX4_isOn 2 (some .boolean) 1 := ⟨tw_485, tw_2, by decide, by decide, by decide, by decide +kernel⟩
theorem mf_X4_items : MF yX4_items cX4_items 3 (some .int) 0 := ⟨tw_835, tw_2, by decide, by decide, by decide, by decide +kernel⟩
theorem mf_X4_keyBits : MF yX4_keyBits cX4_keyBits 4 (some .int) 1 := ⟨tw_538, tw_2, by decide, by decide, by decide, by decide +kernel⟩
theorem mf_X4_keyBitsOfAll : MF yX4_keyBitsOfAll cX4_keyBitsOfAll 3 (some .int) 0 := ⟨tw_831, tw_2, by decide, by decide, by decide, by decide +kernel⟩
theorem mf_X4_put : MF yX4_put cX4_put 5 none 4 := ⟨tw_35, tw_2, by decide, by decide, by decide, by decide +kernel⟩
theorem mf_X4_putKind : MF yX4_putKind cX4_putKind 4 none 3 := ⟨tw_446, tw_2, by decide, by decide, by decide, by decide +kernel⟩
theorem mf_X4_putOn : MF yX4_putOn cX4_putOn 4 none 3 := ⟨tw_713, tw_2, by decide, by decide, by decide, by decide +kernel⟩
theorem mf_X4_rank : MF yX4_rank cX4_rank 2 (some .int) 1 := ⟨tw_43, tw_2, by decide, by decide, by decide, by decide +kernel⟩
theorem mf_X4_toggle : MF yX4_toggle cX4_toggle 2 none 1 := ⟨tw_454, tw_2, by decide, by decide, by decide, by decide +kernel⟩
theorem mf_X5_addItem : MF yX5_addItem cX5_addItem 3 none 2 := ⟨tw_411, tw_6, by decide, by decide, by decide, by decide +kernel⟩
theorem mf_X5_applyDrop : MF yX5_applyDrop cX5_applyDrop 2 (some .boolean) 1 := ⟨tw_470, tw_6, by decide, by decide, by decide, by decide +kernel⟩
theorem mf_X5_applyEntry : MF yX5_applyEntry cX5_applyEntry 4 (some .boolean) 1 := ⟨tw_458, tw_6, by decide, by decide, by decide, by decide +kernel⟩
theorem mf_X5_applyKind : MF yX5_applyKind cX5_applyKind 2 (some .boolean) 1 := ⟨tw_439, tw_6, by decide, by decide, by decide, by decide +kernel⟩
theorem mf_X5_applyManner : MF yX5_applyManner cX5_applyManner 2 (some .boolean) 1 := ⟨tw_475, tw_6, by decide, by decide, by decide, by decide +kernel⟩
theorem mf_X5_applyTo : MF yX5_applyTo cX5_applyTo 2 (some .boolean) 1 := ⟨tw_435, tw_6, by decide, by decide, by decide, by decide +kernel⟩
theorem mf_X5_applyToggle : MF yX5_applyToggle cX5_applyToggle 2 (some .boolean) 1 := ⟨tw_450, tw_6, by decide, by decide, by decide, by decide +kernel⟩
theorem mf_X5_beginEntry : MF yX5_beginEntry cX5_beginEntry 1 none 0 := ⟨tw_395, tw_6, by decide, by decide, by decide, by decide +kernel⟩
theorem mf_X5_init : MF yX5_init cX5_init 1 none 0 := ⟨tw_201, tw_6, by decide, by decide, by decide, by decide +kernel⟩
theorem mf_X6_append : MF yX6_append cX6_append 2 (some .int) 1 := ⟨tw_340, tw_5, by decide, by decide, by decide, by decide +kernel⟩
theorem mf_X6_init : MF yX6_init cX6_init 1 none 0 := ⟨tw_195, tw_5, by decide, by decide, by decide, by decide +kernel⟩
theorem mf_X6_isWellFormed : MF yX6_isWellFormed cX6_isWellFormed 2 (some .boolean) 0 := ⟨tw_348, tw_5, by decide, by decide, by decide, by decide +kernel⟩
theorem mf_X6_letterHere : MF yX6_letterHere cX6_letterHere 1 (some .int) 0 := ⟨tw_356, tw_5, by decide, by decide, by decide, by decide +kernel⟩
theorem mf_X6_readDigit : MF yX6_readDigit cX6_readDigit 2 (some .int) 0 := ⟨tw_364, tw_5, by decide, by decide, by decide, by decide +kernel⟩
theorem mf_X6_readEntry : MF yX6_readEntry cX6_readEntry 1 (some .boolean) 0 := ⟨tw_391, tw_5, by decide, by decide, by decide, by decide +kernel⟩
theorem mf_X6_readFigure : MF yX6_readFigure cX6_readFigure 1 (some .boolean) 0 := ⟨tw_372, tw_5, by decide, by decide, by decide, by decide +kernel⟩
theorem mf_X6_readItems : MF yX6_readItems cX6_readItems 4 (some .boolean) 0 := ⟨tw_407, tw_5, by decide, by decide, by decide, by decide +kernel⟩
theorem mf_X6_readKey : MF yX6_readKey cX6_readKey 1 (some .boolean) 0 := ⟨tw_380, tw_5, by decide, by decide, by decide, by decide +kernel⟩
theorem mf_X6_readKeyLetter : MF yX6_readKeyLetter cX6_readKeyLetter 2 (some .int) 0 := ⟨tw_384, tw_5, by decide, by decide, by decide, by decide +kernel⟩
theorem mf_X6_readKind : MF yX6_readKind cX6_readKind 1 (some .boolean) 0 := ⟨tw_368, tw_5, by decide, by decide, by decide, by decide +kernel⟩
theorem mf_X6_readLayer : MF yX6_readLayer cX6_readLayer 1 (some .boolean) 0 := ⟨tw_360, tw_5, by decide, by decide, by decide, by decide +kernel⟩
theorem mf_X6_readManner : MF yX6_readManner cX6_readManner 1 (some .boolean) 0 := ⟨tw_419, tw_5, by decide, by decide, by decide, by decide +kernel⟩
theorem mf_X6_readNumber : MF yX6_readNumber cX6_readNumber 1 (some .boolean) 0 := ⟨tw_399, tw_5, by decide, by decide, by decide, by decide +kernel⟩
theorem mf_X6_readOther : MF yX6_readOther cX6_readOther 1 (some .boolean) 0 := ⟨tw_415, tw_5, by decide, by decide, by decide, by decide +kernel⟩
theorem mf_X6_readPair : MF yX6_readPair cX6_readPair 3 (some .int) 0 := ⟨tw_403, tw_5, by decide, by decide, by decide, by decide +kernel⟩
theorem mf_X6_readSign : MF yX6_readSign cX6_readSign 2 (some .boolean) 1 := ⟨tw_376, tw_5, by decide, by decide, by decide, by decide +kernel⟩
theorem mf_X6_readStatement : MF yX6_readStatement cX6_readStatement 1 (some .boolean) 0 := ⟨tw_352, tw_5, by decide, by decide, by decide, by decide +kernel⟩
theorem mf_X7_adds : MF yX7_adds cX7_adds 8 (some .int) 4 := ⟨tw_512, tw_1, by decide, by decide, by decide, by decide +kernel⟩
theorem mf_X7_all : MF yX7_all cX7_all 4 (some .int) 1 := ⟨tw_671, tw_1, by decide, by decide, by decide, by decide +kernel⟩
theorem mf_X7_applyTold : MF yX7_applyTold cX7_applyTold 3 (some .int) 0 := ⟨tw_423, tw_1, by decide, by decide, by decide, by decide +kernel⟩
theorem mf_X7_byManner : MF yX7_byManner cX7_byManner 6 (some .int) 2 := ⟨tw_717, tw_1, by decide, by decide, by decide, by decide +kernel⟩
theorem mf_X7_clear : MF yX7_clear cX7_clear 2 (some .int) 0 := ⟨tw_783, tw_1, by decide, by decide, by decide, by decide +kernel⟩
theorem mf_X7_commonDivisor : MF yX7_commonDivisor cX7_commonDivisor 11 (some .long) 2 := ⟨tw_751, tw_1, by decide, by decide, by decide, by decide +kernel⟩
theorem mf_X7_count : MF yX7_count cX7_count 2 (some .int) 1 := ⟨tw_827, tw_1, by decide, by decide, by decide, by decide +kernel⟩
theorem mf_X7_drawTrial : MF yX7_drawTrial cX7_drawTrial 5 none 0 := ⟨tw_791, tw_1, by decide, by decide, by decide, by decide +kernel⟩
theorem mf_X7_drops : MF yX7_drops cX7_drops 3 (some .int) 2 := ⟨tw_529, tw_1, by decide, by decide, by decide, by decide +kernel⟩
theorem mf_X7_entry : MF yX7_entry cX7_entry 5 (some .int) 3 := ⟨tw_558, tw_1, by decide, by decide, by decide, by decide +kernel⟩
theorem mf_X7_fault : MF yX7_fault cX7_fault 5 (some .int) 3 := ⟨tw_655, tw_1, by decide, by decide, by decide, by decide +kernel⟩
theorem mf_X7_faultBits : MF yX7_faultBits cX7_faultBits 4 (some .int) 1 := ⟨tw_809, tw_1, by decide, by decide, by decide, by decide +kernel⟩
theorem mf_X7_fewest : MF yX7_fewest cX7_fewest 3 (some .int) 0 := ⟨tw_721, tw_1, by decide, by decide, by decide, by decide +kernel⟩
theorem mf_X7_firstNotSo : MF yX7_firstNotSo cX7_firstNotSo 3 (some .int) 1 := ⟨tw_763, tw_1, by decide, by decide, by decide, by decide +kernel⟩
theorem mf_X7_gap : MF yX7_gap cX7_gap 3 (some .int) 2 := ⟨tw_525, tw_1, by decide, by decide, by decide, by decide +kernel⟩
theorem mf_X7_hidden : MF yX7_hidden cX7_hidden 5 (some .int) 1 := ⟨tw_682, tw_1, by decide, by decide, by decide, by decide +kernel⟩
theorem mf_X7_image : MF yX7_image cX7_image 1 (some .int) 0 := ⟨tw_813, tw_1, by decide, by decide, by decide, by decide +kernel⟩
theorem mf_X7_init : MF yX7_init cX7_init 2 none 0 := ⟨tw_18, tw_1, by decide, by decide, by decide, by decide +kernel⟩
theorem mf_X7_isAmong : MF yX7_isAmong cX7_isAmong 3 (some .boolean) 3 := ⟨tw_674, tw_1, by decide, by decide, by decide, by decide +kernel⟩
theorem mf_X7_isPresentBy : MF yX7_isPresentBy cX7_isPresentBy 3 (some .boolean) 1 := ⟨tw_729, tw_1, by decide, by decide, by decide, by decide +kernel⟩
theorem mf_X7_item : MF yX7_item cX7_item 5 (some .int) 3 := ⟨tw_651, tw_1, by decide, by decide, by decide, by decide +kernel⟩
theorem mf_X7_judge : MF yX7_judge cX7_judge 2 (some .int) 0 := ⟨tw_779, tw_1, by decide, by decide, by decide, by decide +kernel⟩
theorem mf_X7_keepPresent : MF yX7_keepPresent cX7_keepPresent 2 none 0 := ⟨tw_725, tw_1, by decide, by decide, by decide, by decide +kernel⟩
theorem mf_X7_kind : MF yX7_kind cX7_kind 6 (some .int) 3 := ⟨tw_489, tw_1, by decide, by decide, by decide, by decide +kernel⟩
theorem mf_X7_layer : MF yX7_layer cX7_layer 3 (some .int) 2 := ⟨tw_549, tw_1, by decide, by decide, by decide, by decide +kernel⟩
theorem mf_X7_leastTerms : MF yX7_leastTerms cX7_leastTerms 7 (some .long) 3 := ⟨tw_748, tw_1, by decide, by decide, by decide, by decide +kernel⟩
theorem mf_X7_letter : MF yX7_letter cX7_letter 2 (some .int) 1 := ⟨tw_332, tw_1, by decide, by decide, by decide, by decide +kernel⟩
theorem mf_X7_lots : MF yX7_lots cX7_lots 6 (some .int) 3 := ⟨tw_787, tw_1, by decide, by decide, by decide, by decide +kernel⟩
theorem mf_X7_manner : MF yX7_manner cX7_manner 4 (some .int) 2 := ⟨tw_497, tw_1, by decide, by decide, by decide, by decide +kernel⟩
theorem mf_X7_mean : MF yX7_mean cX7_mean 8 (some .long) 1 := ⟨tw_755, tw_1, by decide, by decide, by decide, by decide +kernel⟩
theorem mf_X7_missing : MF yX7_missing cX7_missing 8 (some .long) 4 := ⟨tw_737, tw_1, by decide, by decide, by decide, by decide +kernel⟩
theorem mf_X7_noEntry : MF yX7_noEntry cX7_noEntry 3 (some .boolean) 2 := ⟨tw_533, tw_1, by decide, by decide, by decide, by decide +kernel⟩
theorem mf_X7_noKey : MF yX7_noKey cX7_noKey 1 (some .boolean) 1 := ⟨tw_387, tw_1, by decide, by decide, by decide, by decide +kernel⟩
theorem mf_X7_noLayer : MF yX7_noLayer cX7_noLayer 1 (some .boolean) 1 := ⟨tw_442, tw_1, by decide, by decide, by decide, by decide +kernel⟩
theorem mf_X7_numbersTogether : MF yX7_numbersTogether cX7_numbersTogether 4 (some .int) 1 := ⟨tw_802, tw_1, by decide, by decide, by decide, by decide +kernel⟩
theorem mf_X7_on : MF yX7_on cX7_on 1 (some .int) 0 := ⟨tw_823, tw_1, by decide, by decide, by decide, by decide +kernel⟩
theorem mf_X7_outside : MF yX7_outside cX7_outside 2 (some .int) 2 := ⟨tw_492, tw_1, by decide, by decide, by decide, by decide +kernel⟩
theorem mf_X7_power : MF yX7_power cX7_power 6 (some .long) 2 := ⟨tw_745, tw_1, by decide, by decide, by decide, by decide +kernel⟩
theorem mf_X7_refers : MF yX7_refers cX7_refers 5 (some .int) 4 := ⟨tw_521, tw_1, by decide, by decide, by decide, by decide +kernel⟩
theorem mf_X7_refuse : MF yX7_refuse cX7_refuse 2 (some .int) 1 := ⟨tw_336, tw_1, by decide, by decide, by decide, by decide +kernel⟩
theorem mf_X7_refuseLong : MF yX7_refuseLong cX7_refuseLong 2 (some .long) 1 := ⟨tw_741, tw_1, by decide, by decide, by decide, by decide +kernel⟩
theorem mf_X7_replace : MF yX7_replace cX7_replace 8 (some .int) 5 := ⟨tw_506, tw_1, by decide, by decide, by decide, by decide +kernel⟩
theorem mf_X7_row : MF yX7_row cX7_row 2 (some .int) 1 := ⟨tw_771, tw_1, by decide, by decide, by decide, by decide +kernel⟩
theorem mf_X7_set : MF yX7_set cX7_set 8 (some .int) 4 := ⟨tw_709, tw_1, by decide, by decide, by decide, by decide +kernel⟩
theorem mf_X7_sets : MF yX7_sets cX7_sets 5 (some .int) 3 := ⟨tw_502, tw_1, by decide, by decide, by decide, by decide +kernel⟩
theorem mf_X7_settings : MF yX7_settings cX7_settings 2 (some .int) 0 := ⟨tw_344, tw_1, by decide, by decide, by decide, by decide +kernel⟩
theorem mf_X7_since : MF yX7_since cX7_since 3 (some .int) 0 := ⟨tw_733, tw_1, by decide, by decide, by decide, by decide +kernel⟩
theorem mf_X7_slotOf : MF yX7_slotOf cX7_slotOf 2 (some .int) 2 := ⟨tw_461, tw_1, by decide, by decide, by decide, by decide +kernel⟩
theorem mf_X7_sources : MF yX7_sources cX7_sources 4 (some .int) 2 := ⟨tw_659, tw_1, by decide, by decide, by decide, by decide +kernel⟩
theorem mf_X7_turn : MF yX7_turn cX7_turn 5 (some .int) 2 := ⟨tw_705, tw_1, by decide, by decide, by decide, by decide +kernel⟩
theorem mf_X7_turns : MF yX7_turns cX7_turns 2 (some .int) 1 := ⟨tw_479, tw_1, by decide, by decide, by decide, by decide +kernel⟩
theorem mf_X7_usedBy : MF yX7_usedBy cX7_usedBy 4 (some .int) 1 := ⟨tw_667, tw_1, by decide, by decide, by decide, by decide +kernel⟩
theorem mf_X7_uses : MF yX7_uses cX7_uses 3 (some .int) 2 := ⟨tw_663, tw_1, by decide, by decide, by decide, by decide +kernel⟩
theorem mf_X7_value : MF yX7_value cX7_value 4 (some .int) 2 := ⟨tw_562, tw_1, by decide, by decide, by decide, by decide +kernel⟩
theorem mf_X7_whatIs : MF yX7_whatIs cX7_whatIs 8 (some .int) 2 := ⟨tw_759, tw_1, by decide, by decide, by decide, by decide +kernel⟩
theorem mf_X7_without : MF yX7_without cX7_without 3 (some .int) 2 := ⟨tw_697, tw_1, by decide, by decide, by decide, by decide +kernel⟩
theorem mf_X8_adds : MF yX8_adds cX8_adds 6 (some .int) 4 := ⟨tw_967, tw_9, by decide, by decide, by decide, by decide +kernel⟩
theorem mf_X8_all : MF yX8_all cX8_all 2 (some .int) 1 := ⟨tw_1118, tw_9, by decide, by decide, by decide, by decide +kernel⟩
theorem mf_X8_allSo : MF yX8_allSo cX8_allSo 4 (some .int) 1 := ⟨tw_1122, tw_9, by decide, by decide, by decide, by decide +kernel⟩
theorem mf_X8_areLike : MF yX8_areLike cX8_areLike 3 (some .boolean) 0 := ⟨tw_1182, tw_9, by decide, by decide, by decide, by decide +kernel⟩
theorem mf_X8_byManner : MF yX8_byManner cX8_byManner 6 (some .int) 2 := ⟨tw_1166, tw_9, by decide, by decide, by decide, by decide +kernel⟩
theorem mf_X8_clear : MF yX8_clear cX8_clear 2 (some .int) 0 := ⟨tw_1233, tw_9, by decide, by decide, by decide, by decide +kernel⟩
theorem mf_X8_common : MF yX8_common cX8_common 4 (some .long) 2 := ⟨tw_1201, tw_9, by decide, by decide, by decide, by decide +kernel⟩
theorem mf_X8_copies : MF yX8_copies cX8_copies 3 none 2 := ⟨tw_1034, tw_9, by decide, by decide, by decide, by decide +kernel⟩
theorem mf_X8_count : MF yX8_count cX8_count 4 (some .int) 1 := ⟨tw_1260, tw_9, by decide, by decide, by decide, by decide +kernel⟩
theorem mf_X8_counts : MF yX8_counts cX8_counts 6 (some .boolean) 2 := ⟨tw_1066, tw_9, by decide, by decide, by decide, by decide +kernel⟩
theorem mf_X8_digit : MF yX8_digit cX8_digit 1 (some .int) 0 := ⟨tw_1015, tw_9, by decide, by decide, by decide, by decide +kernel⟩
theorem mf_X8_draw : MF yX8_draw cX8_draw 2 (some .int) 1 := ⟨tw_1241, tw_9, by decide, by decide, by decide, by decide +kernel⟩
theorem mf_X8_drops : MF yX8_drops cX8_drops 3 (some .int) 2 := ⟨tw_992, tw_9, by decide, by decide, by decide, by decide +kernel⟩
theorem mf_X8_entries : MF yX8_entries cX8_entries 4 (some .int) 1 := ⟨tw_996, tw_9, by decide, by decide, by decide, by decide +kernel⟩
theorem mf_X8_entries_ : MF yX8_entries_ cX8_entries_ 3 (some .int) 0 := ⟨tw_1252, tw_9, by decide, by decide, by decide, by decide +kernel⟩
theorem mf_X8_entry : MF yX8_entry cX8_entry 10 (some .boolean) 3 := ⟨tw_1027, tw_9, by decide, by decide, by decide, by decide +kernel⟩
theorem mf_X8_entryAt : MF yX8_entryAt cX8_entryAt 2 (some .int) 2 := ⟨tw_963, tw_9, by decide, by decide, by decide, by decide +kernel⟩
theorem mf_X8_entry_ : MF yX8_entry_ cX8_entry_ 7 (some .int) 3 := ⟨tw_1050, tw_9, by decide, by decide, by decide, by decide +kernel⟩
theorem mf_X8_fails : MF yX8_fails cX8_fails 4 (some .boolean) 2 := ⟨tw_1078, tw_9, by decide, by decide, by decide, by decide +kernel⟩
theorem mf_X8_fault : MF yX8_fault cX8_fault 4 (some .int) 3 := ⟨tw_1102, tw_9, by decide, by decide, by decide, by decide +kernel⟩
theorem mf_X8_fewest : MF yX8_fewest cX8_fewest 4 (some .int) 0 := ⟨tw_1170, tw_9, by decide, by decide, by decide, by decide +kernel⟩
theorem mf_X8_find : MF yX8_find cX8_find 6 (some .int) 3 := ⟨tw_975, tw_9, by decide, by decide, by decide, by decide +kernel⟩
theorem mf_X8_gap : MF yX8_gap cX8_gap 3 (some .int) 2 := ⟨tw_988, tw_9, by decide, by decide, by decide, by decide +kernel⟩
theorem mf_X8_has : MF yX8_has cX8_has 3 (some .boolean) 2 := ⟨tw_971, tw_9, by decide, by decide, by decide, by decide +kernel⟩
theorem mf_X8_hidden : MF yX8_hidden cX8_hidden 5 (some .int) 1 := ⟨tw_1130, tw_9, by decide, by decide, by decide, by decide +kernel⟩
theorem mf_X8_image : MF yX8_image cX8_image 1 (some .int) 0 := ⟨tw_1248, tw_9, by decide, by decide, by decide, by decide +kernel⟩
theorem mf_X8_init : MF yX8_init cX8_init 2 none 0 := ⟨tw_840, tw_9, by decide, by decide, by decide, by decide +kernel⟩
theorem mf_X8_is : MF yX8_is cX8_is 4 none 2 := ⟨tw_1090, tw_9, by decide, by decide, by decide, by decide +kernel⟩
theorem mf_X8_isAt : MF yX8_isAt cX8_isAt 3 (some .boolean) 2 := ⟨tw_1023, tw_9, by decide, by decide, by decide, by decide +kernel⟩
theorem mf_X8_isBehind : MF yX8_isBehind cX8_isBehind 3 (some .boolean) 2 := ⟨tw_1046, tw_9, by decide, by decide, by decide, by decide +kernel⟩
theorem mf_X8_isIn : MF yX8_isIn cX8_isIn 3 (some .boolean) 3 := ⟨tw_937, tw_9, by decide, by decide, by decide, by decide +kernel⟩
theorem mf_X8_isKey : MF yX8_isKey cX8_isKey 1 (some .boolean) 1 := ⟨tw_952, tw_9, by decide, by decide, by decide, by decide +kernel⟩
theorem mf_X8_isLayer : MF yX8_isLayer cX8_isLayer 1 (some .boolean) 1 := ⟨tw_934, tw_9, by decide, by decide, by decide, by decide +kernel⟩
theorem mf_X8_isLike : MF yX8_isLike cX8_isLike 5 (some .boolean) 1 := ⟨tw_1138, tw_9, by decide, by decide, by decide, by decide +kernel⟩
theorem mf_X8_isSo : MF yX8_isSo cX8_isSo 4 (some .boolean) 2 := ⟨tw_1126, tw_9, by decide, by decide, by decide, by decide +kernel⟩
theorem mf_X8_isTold : MF yX8_isTold cX8_isTold 3 (some .boolean) 1 := ⟨tw_1221, tw_9, by decide, by decide, by decide, by decide +kernel⟩
theorem mf_X8_item : MF yX8_item cX8_item 4 (some .int) 3 := ⟨tw_1098, tw_9, by decide, by decide, by decide, by decide +kernel⟩
theorem mf_X8_judge : MF yX8_judge cX8_judge 2 (some .int) 0 := ⟨tw_1229, tw_9, by decide, by decide, by decide, by decide +kernel⟩
theorem mf_X8_kind : MF yX8_kind cX8_kind 5 (some .int) 3 := ⟨tw_945, tw_9, by decide, by decide, by decide, by decide +kernel⟩
theorem mf_X8_layer : MF yX8_layer cX8_layer 5 (some .int) 2 := ⟨tw_1038, tw_9, by decide, by decide, by decide, by decide +kernel⟩
theorem mf_X8_letter : MF yX8_letter cX8_letter 2 (some .int) 1 := ⟨tw_1003, tw_9, by decide, by decide, by decide, by decide +kernel⟩
theorem mf_X8_lots : MF yX8_lots cX8_lots 9 (some .int) 3 := ⟨tw_1237, tw_9, by decide, by decide, by decide, by decide +kernel⟩
theorem mf_X8_makes : MF yX8_makes cX8_makes 8 (some .boolean) 3 := ⟨tw_1086, tw_9, by decide, by decide, by decide, by decide +kernel⟩
theorem mf_X8_manner : MF yX8_manner cX8_manner 4 (some .int) 2 := ⟨tw_949, tw_9, by decide, by decide, by decide, by decide +kernel⟩
theorem mf_X8_mean : MF yX8_mean cX8_mean 3 (some .long) 1 := ⟨tw_1205, tw_9, by decide, by decide, by decide, by decide +kernel⟩
theorem mf_X8_merges : MF yX8_merges cX8_merges 7 (some .boolean) 3 := ⟨tw_1094, tw_9, by decide, by decide, by decide, by decide +kernel⟩
theorem mf_X8_missing : MF yX8_missing cX8_missing 14 (some .long) 4 := ⟨tw_1190, tw_9, by decide, by decide, by decide, by decide +kernel⟩
theorem mf_X8_no : MF yX8_no cX8_no 2 (some .int) 1 := ⟨tw_941, tw_9, by decide, by decide, by decide, by decide +kernel⟩
theorem mf_X8_noLong : MF yX8_noLong cX8_noLong 2 (some .long) 1 := ⟨tw_1194, tw_9, by decide, by decide, by decide, by decide +kernel⟩
theorem mf_X8_numberOf : MF yX8_numberOf cX8_numberOf 2 (some .int) 1 := ⟨tw_1154, tw_9, by decide, by decide, by decide, by decide +kernel⟩
theorem mf_X8_numberWith : MF yX8_numberWith cX8_numberWith 6 (some .int) 3 := ⟨tw_1150, tw_9, by decide, by decide, by decide, by decide +kernel⟩
theorem mf_X8_offers : MF yX8_offers cX8_offers 5 (some .int) 1 := ⟨tw_1058, tw_9, by decide, by decide, by decide, by decide +kernel⟩
theorem mf_X8_on : MF yX8_on cX8_on 1 (some .int) 0 := ⟨tw_1256, tw_9, by decide, by decide, by decide, by decide +kernel⟩
theorem mf_X8_onNow : MF yX8_onNow cX8_onNow 3 (some .int) 0 := ⟨tw_1174, tw_9, by decide, by decide, by decide, by decide +kernel⟩
theorem mf_X8_ones : MF yX8_ones cX8_ones 3 (some .int) 1 := ⟨tw_999, tw_9, by decide, by decide, by decide, by decide +kernel⟩
theorem mf_X8_ordered : MF yX8_ordered cX8_ordered 5 (some .int) 1 := ⟨tw_1062, tw_9, by decide, by decide, by decide, by decide +kernel⟩
theorem mf_X8_part : MF yX8_part cX8_part 5 (some .long) 3 := ⟨tw_1198, tw_9, by decide, by decide, by decide, by decide +kernel⟩
theorem mf_X8_puts : MF yX8_puts cX8_puts 6 none 4 := ⟨tw_979, tw_9, by decide, by decide, by decide, by decide +kernel⟩
theorem mf_X8_rank : MF yX8_rank cX8_rank 4 (some .int) 1 := ⟨tw_1042, tw_9, by decide, by decide, by decide, by decide +kernel⟩
theorem mf_X8_refers : MF yX8_refers cX8_refers 5 (some .int) 4 := ⟨tw_983, tw_9, by decide, by decide, by decide, by decide +kernel⟩
theorem mf_X8_resolves : MF yX8_resolves cX8_resolves 3 (some .boolean) 1 := ⟨tw_1070, tw_9, by decide, by decide, by decide, by decide +kernel⟩
theorem mf_X8_resolves_ : MF yX8_resolves_ cX8_resolves_ 5 (some .boolean) 2 := ⟨tw_1074, tw_9, by decide, by decide, by decide, by decide +kernel⟩
theorem mf_X8_row : MF yX8_row cX8_row 2 (some .int) 1 := ⟨tw_1225, tw_9, by decide, by decide, by decide, by decide +kernel⟩
theorem mf_X8_set : MF yX8_set cX8_set 7 (some .int) 4 := ⟨tw_1162, tw_9, by decide, by decide, by decide, by decide +kernel⟩
theorem mf_X8_sets : MF yX8_sets cX8_sets 4 (some .int) 3 := ⟨tw_956, tw_9, by decide, by decide, by decide, by decide +kernel⟩
theorem mf_X8_settings : MF yX8_settings cX8_settings 3 (some .int) 0 := ⟨tw_1007, tw_9, by decide, by decide, by decide, by decide +kernel⟩
theorem mf_X8_since : MF yX8_since cX8_since 3 (some .int) 0 := ⟨tw_1186, tw_9, by decide, by decide, by decide, by decide +kernel⟩
theorem mf_X8_sources : MF yX8_sources cX8_sources 3 (some .int) 2 := ⟨tw_1106, tw_9, by decide, by decide, by decide, by decide +kernel⟩
theorem mf_X8_statement : MF yX8_statement cX8_statement 7 (some .boolean) 1 := ⟨tw_1011, tw_9, by decide, by decide, by decide, by decide +kernel⟩
theorem mf_X8_sum : MF yX8_sum cX8_sum 4 (some .int) 0 := ⟨tw_1209, tw_9, by decide, by decide, by decide, by decide +kernel⟩
theorem mf_X8_takes : MF yX8_takes cX8_takes 9 (some .boolean) 3 := ⟨tw_1082, tw_9, by decide, by decide, by decide, by decide +kernel⟩
theorem mf_X8_takes_ : MF yX8_takes_ cX8_takes_ 3 (some .int) 2 := ⟨tw_1019, tw_9, by decide, by decide, by decide, by decide +kernel⟩
theorem mf_X8_tell : MF yX8_tell cX8_tell 9 (some .int) 5 := ⟨tw_960, tw_9, by decide, by decide, by decide, by decide +kernel⟩
theorem mf_X8_tells : MF yX8_tells cX8_tells 5 none 1 := ⟨tw_1134, tw_9, by decide, by decide, by decide, by decide +kernel⟩
theorem mf_X8_told : MF yX8_told cX8_told 3 (some .int) 2 := ⟨tw_1142, tw_9, by decide, by decide, by decide, by decide +kernel⟩
theorem mf_X8_turn : MF yX8_turn cX8_turn 4 (some .int) 2 := ⟨tw_1158, tw_9, by decide, by decide, by decide, by decide +kernel⟩
theorem mf_X8_turns : MF yX8_turns cX8_turns 2 (some .int) 1 := ⟨tw_931, tw_9, by decide, by decide, by decide, by decide +kernel⟩
theorem mf_X8_turnsTo : MF yX8_turnsTo cX8_turnsTo 3 none 1 := ⟨tw_1178, tw_9, by decide, by decide, by decide, by decide +kernel⟩
theorem mf_X8_twoDigits : MF yX8_twoDigits cX8_twoDigits 2 (some .int) 0 := ⟨tw_1031, tw_9, by decide, by decide, by decide, by decide +kernel⟩
theorem mf_X8_uses : MF yX8_uses cX8_uses 5 (some .int) 2 := ⟨tw_1110, tw_9, by decide, by decide, by decide, by decide +kernel⟩
theorem mf_X8_usesOf : MF yX8_usesOf cX8_usesOf 2 (some .int) 1 := ⟨tw_1114, tw_9, by decide, by decide, by decide, by decide +kernel⟩
theorem mf_X8_value : MF yX8_value cX8_value 3 (some .int) 2 := ⟨tw_1054, tw_9, by decide, by decide, by decide, by decide +kernel⟩
theorem mf_X8_whatIs : MF yX8_whatIs cX8_whatIs 7 (some .int) 2 := ⟨tw_1213, tw_9, by decide, by decide, by decide, by decide +kernel⟩
theorem mf_X8_without : MF yX8_without cX8_without 3 (some .int) 2 := ⟨tw_1146, tw_9, by decide, by decide, by decide, by decide +kernel⟩
theorem mf_X8_wrongInRow : MF yX8_wrongInRow cX8_wrongInRow 2 (some .int) 0 := ⟨tw_1217, tw_9, by decide, by decide, by decide, by decide +kernel⟩
theorem mv_X0_below : MFv yX0_below := ⟨tw_793, tw_794⟩
theorem mv_X1_addOffer : MFv yX1_addOffer := ⟨tw_590, tw_591⟩
theorem mv_X1_increase : MFv yX1_increase := ⟨tw_606, tw_607⟩
theorem mv_X1_isInCycle : MFv yX1_isInCycle := ⟨tw_676, tw_677⟩
theorem mv_X1_isLike : MFv yX1_isLike := ⟨tw_688, tw_689⟩
theorem mv_X1_keep : MFv yX1_keep := ⟨tw_684, tw_685⟩
theorem mv_X1_numberOrNothing : MFv yX1_numberOrNothing := ⟨tw_699, tw_700⟩
theorem mv_X1_offerLayer : MFv yX1_offerLayer := ⟨tw_598, tw_599⟩
theorem mv_X1_reset : MFv yX1_reset := ⟨tw_572, tw_573⟩
theorem mv_X1_takeAlone : MFv yX1_takeAlone := ⟨tw_632, tw_633⟩
theorem mv_X1_takeGreater : MFv yX1_takeGreater := ⟨tw_628, tw_629⟩
theorem mv_X1_takeItem : MFv yX1_takeItem := ⟨tw_645, tp_33⟩
theorem mv_X1_takeItems : MFv yX1_takeItems := ⟨tw_640, tw_641⟩
theorem mv_X1_takeSource : MFv yX1_takeSource := ⟨tw_624, tp_32⟩
theorem mv_X1_takeToTotal : MFv yX1_takeToTotal := ⟨tw_619, tw_620⟩
theorem mv_X2_ask : MFv yX2_ask := ⟨tw_564, tw_565⟩
theorem mv_X2_copyEntry : MFv yX2_copyEntry := ⟨tw_611, tp_30⟩
theorem mv_X2_counts : MFv yX2_counts := ⟨tw_587, tp_27⟩
theorem mv_X2_fail : MFv yX2_fail := ⟨tw_577, tp_25⟩
theorem mv_X2_gatherOffers : MFv yX2_gatherOffers := ⟨tw_581, tp_26⟩
theorem mv_X2_make : MFv yX2_make := ⟨tw_603, tp_29⟩
theorem mv_X2_merge : MFv yX2_merge := ⟨tw_595, tp_28⟩
theorem mv_X2_resolve : MFv yX2_resolve := ⟨tw_569, tp_24⟩
theorem mv_X2_take : MFv yX2_take := ⟨tw_616, tp_31⟩
theorem mv_X3_append : MFv yX3_append := ⟨tw_773, tw_774⟩
theorem mv_X3_isOtherThan : MFv yX3_isOtherThan := ⟨tw_765, tw_766⟩
theorem mv_X4_addItem : MFv yX4_addItem := ⟨tw_464, tw_465⟩
theorem mv_X4_arrange : MFv yX4_arrange := ⟨tw_38, tp_0⟩
theorem mv_X4_become : MFv yX4_become := ⟨tw_425, tw_426⟩
theorem mv_X4_entries : MFv yX4_entries := ⟨tw_815, tw_816⟩
theorem mv_X4_erase : MFv yX4_erase := ⟨tw_29, tw_30⟩
theorem mv_X4_hasItem : MFv yX4_hasItem := ⟨tw_514, tw_515⟩
theorem mv_X4_howManyBehind : MFv yX4_howManyBehind := ⟨tw_552, tw_553⟩
theorem mv_X4_isOn : MFv yX4_isOn := ⟨tw_483, tw_484⟩
theorem mv_X4_items : MFv yX4_items := ⟨tw_833, tw_834⟩
theorem mv_X4_keyBits : MFv yX4_keyBits := ⟨tw_536, tw_537⟩
theorem mv_X4_keyBitsOfAll : MFv yX4_keyBitsOfAll := ⟨tw_829, tw_830⟩
theorem mv_X4_put : MFv yX4_put := ⟨tw_33, tw_34⟩
theorem mv_X4_putKind : MFv yX4_putKind := ⟨tw_444, tw_445⟩
theorem mv_X4_putOn : MFv yX4_putOn := ⟨tw_711, tw_712⟩
theorem mv_X4_rank : MFv yX4_rank := ⟨tw_41, tw_42⟩
theorem mv_X4_toggle : MFv yX4_toggle := ⟨tw_452, tw_453⟩
theorem mv_X5_addItem : MFv yX5_addItem := ⟨tw_409, tw_410⟩
theorem mv_X5_applyDrop : MFv yX5_applyDrop := ⟨tw_469, tp_20⟩
theorem mv_X5_applyEntry : MFv yX5_applyEntry := ⟨tw_457, tp_19⟩
theorem mv_X5_applyKind : MFv yX5_applyKind := ⟨tw_438, tp_17⟩
theorem mv_X5_applyManner : MFv yX5_applyManner := ⟨tw_474, tp_21⟩
theorem mv_X5_applyTo : MFv yX5_applyTo := ⟨tw_433, tw_434⟩
theorem mv_X5_applyToggle : MFv yX5_applyToggle := ⟨tw_449, tp_18⟩
theorem mv_X5_beginEntry : MFv yX5_beginEntry := ⟨tw_393, tw_394⟩
theorem mv_X6_append : MFv yX6_append := ⟨tw_338, tw_339⟩
theorem mv_X6_isWellFormed : MFv yX6_isWellFormed := ⟨tw_346, tw_347⟩
theorem mv_X6_letterHere : MFv yX6_letterHere := ⟨tw_355, tp_2⟩
theorem mv_X6_readDigit : MFv yX6_readDigit := ⟨tw_363, tp_4⟩
theorem mv_X6_readEntry : MFv yX6_readEntry := ⟨tw_390, tp_10⟩
theorem mv_X6_readFigure : MFv yX6_readFigure := ⟨tw_371, tp_6⟩
theorem mv_X6_readItems : MFv yX6_readItems := ⟨tw_406, tp_13⟩
theorem mv_X6_readKey : MFv yX6_readKey := ⟨tw_379, tp_8⟩
theorem mv_X6_readKeyLetter : MFv yX6_readKeyLetter := ⟨tw_383, tp_9⟩
theorem mv_X6_readKind : MFv yX6_readKind := ⟨tw_367, tp_5⟩
theorem mv_X6_readLayer : MFv yX6_readLayer := ⟨tw_359, tp_3⟩
theorem mv_X6_readManner : MFv yX6_readManner := ⟨tw_418, tp_15⟩
theorem mv_X6_readNumber : MFv yX6_readNumber := ⟨tw_398, tp_11⟩
theorem mv_X6_readOther : MFv yX6_readOther := ⟨tw_414, tp_14⟩
theorem mv_X6_readPair : MFv yX6_readPair := ⟨tw_402, tp_12⟩
theorem mv_X6_readSign : MFv yX6_readSign := ⟨tw_375, tp_7⟩
theorem mv_X6_readStatement : MFv yX6_readStatement := ⟨tw_350, tw_351⟩
theorem mv_X7_adds : MFv yX7_adds := ⟨tw_510, tw_511⟩
theorem mv_X7_all : MFv yX7_all := ⟨tw_669, tw_670⟩
theorem mv_X7_applyTold : MFv yX7_applyTold := ⟨tw_422, tp_16⟩
theorem mv_X7_byManner : MFv yX7_byManner := ⟨tw_715, tw_716⟩
theorem mv_X7_clear : MFv yX7_clear := ⟨tw_781, tw_782⟩
theorem mv_X7_count : MFv yX7_count := ⟨tw_825, tw_826⟩
theorem mv_X7_drawTrial : MFv yX7_drawTrial := ⟨tw_790, tp_39⟩
theorem mv_X7_drops : MFv yX7_drops := ⟨tw_527, tw_528⟩
theorem mv_X7_entry : MFv yX7_entry := ⟨tw_556, tw_557⟩
theorem mv_X7_fault : MFv yX7_fault := ⟨tw_653, tw_654⟩
theorem mv_X7_faultBits : MFv yX7_faultBits := ⟨tw_808, tp_41⟩
theorem mv_X7_fewest : MFv yX7_fewest := ⟨tw_719, tw_720⟩
theorem mv_X7_firstNotSo : MFv yX7_firstNotSo := ⟨tw_762, tp_38⟩
theorem mv_X7_gap : MFv yX7_gap := ⟨tw_523, tw_524⟩
theorem mv_X7_hidden : MFv yX7_hidden := ⟨tw_680, tw_681⟩
theorem mv_X7_image : MFv yX7_image := ⟨tw_811, tw_812⟩
theorem mv_X7_isPresentBy : MFv yX7_isPresentBy := ⟨tw_728, tp_36⟩
theorem mv_X7_item : MFv yX7_item := ⟨tw_649, tw_650⟩
theorem mv_X7_judge : MFv yX7_judge := ⟨tw_777, tw_778⟩
theorem mv_X7_keepPresent : MFv yX7_keepPresent := ⟨tw_724, tp_35⟩
theorem mv_X7_kind : MFv yX7_kind := ⟨tw_487, tw_488⟩
theorem mv_X7_layer : MFv yX7_layer := ⟨tw_547, tw_548⟩
theorem mv_X7_letter : MFv yX7_letter := ⟨tw_330, tw_331⟩
theorem mv_X7_lots : MFv yX7_lots := ⟨tw_785, tw_786⟩
theorem mv_X7_manner : MFv yX7_manner := ⟨tw_495, tw_496⟩
theorem mv_X7_mean : MFv yX7_mean := ⟨tw_753, tw_754⟩
theorem mv_X7_missing : MFv yX7_missing := ⟨tw_735, tw_736⟩
theorem mv_X7_noEntry : MFv yX7_noEntry := ⟨tw_532, tp_23⟩
theorem mv_X7_numbersTogether : MFv yX7_numbersTogether := ⟨tw_801, tp_40⟩
theorem mv_X7_on : MFv yX7_on := ⟨tw_821, tw_822⟩
theorem mv_X7_refers : MFv yX7_refers := ⟨tw_519, tw_520⟩
theorem mv_X7_refuse : MFv yX7_refuse := ⟨tw_335, tp_1⟩
theorem mv_X7_refuseLong : MFv yX7_refuseLong := ⟨tw_740, tp_37⟩
theorem mv_X7_replace : MFv yX7_replace := ⟨tw_505, tp_22⟩
theorem mv_X7_row : MFv yX7_row := ⟨tw_769, tw_770⟩
theorem mv_X7_set : MFv yX7_set := ⟨tw_707, tw_708⟩
theorem mv_X7_sets : MFv yX7_sets := ⟨tw_500, tw_501⟩
theorem mv_X7_settings : MFv yX7_settings := ⟨tw_342, tw_343⟩
theorem mv_X7_since : MFv yX7_since := ⟨tw_731, tw_732⟩
theorem mv_X7_sources : MFv yX7_sources := ⟨tw_657, tw_658⟩
theorem mv_X7_turn : MFv yX7_turn := ⟨tw_703, tw_704⟩
theorem mv_X7_turns : MFv yX7_turns := ⟨tw_477, tw_478⟩
theorem mv_X7_usedBy : MFv yX7_usedBy := ⟨tw_666, tp_34⟩
theorem mv_X7_uses : MFv yX7_uses := ⟨tw_661, tw_662⟩
theorem mv_X7_value : MFv yX7_value := ⟨tw_560, tw_561⟩
theorem mv_X7_whatIs : MFv yX7_whatIs := ⟨tw_757, tw_758⟩
theorem mv_X7_without : MFv yX7_without := ⟨tw_695, tw_696⟩
theorem mv_X8_adds : MFv yX8_adds := ⟨tw_965, tw_966⟩
theorem mv_X8_all : MFv yX8_all := ⟨tw_1116, tw_1117⟩
theorem mv_X8_allSo : MFv yX8_allSo := ⟨tw_1121, tp_67⟩
theorem mv_X8_areLike : MFv yX8_areLike := ⟨tw_1181, tp_76⟩
theorem mv_X8_byManner : MFv yX8_byManner := ⟨tw_1164, tw_1165⟩
theorem mv_X8_clear : MFv yX8_clear := ⟨tw_1231, tw_1232⟩
theorem mv_X8_count : MFv yX8_count := ⟨tw_1258, tw_1259⟩
theorem mv_X8_counts : MFv yX8_counts := ⟨tw_1065, tp_58⟩
theorem mv_X8_digit : MFv yX8_digit := ⟨tw_1014, tp_49⟩
theorem mv_X8_draw : MFv yX8_draw := ⟨tw_1240, tp_81⟩
theorem mv_X8_drops : MFv yX8_drops := ⟨tw_990, tw_991⟩
theorem mv_X8_entries : MFv yX8_entries := ⟨tw_995, tp_47⟩
theorem mv_X8_entries_ : MFv yX8_entries_ := ⟨tw_1251, tp_82⟩
theorem mv_X8_entry : MFv yX8_entry := ⟨tw_1026, tp_52⟩
theorem mv_X8_entry_ : MFv yX8_entry_ := ⟨tw_1048, tw_1049⟩
theorem mv_X8_fails : MFv yX8_fails := ⟨tw_1077, tp_61⟩
theorem mv_X8_fault : MFv yX8_fault := ⟨tw_1100, tw_1101⟩
theorem mv_X8_fewest : MFv yX8_fewest := ⟨tw_1168, tw_1169⟩
theorem mv_X8_find : MFv yX8_find := ⟨tw_974, tp_45⟩
theorem mv_X8_gap : MFv yX8_gap := ⟨tw_986, tw_987⟩
theorem mv_X8_has : MFv yX8_has := ⟨tw_970, tp_44⟩
theorem mv_X8_hidden : MFv yX8_hidden := ⟨tw_1128, tw_1129⟩
theorem mv_X8_image : MFv yX8_image := ⟨tw_1246, tw_1247⟩
theorem mv_X8_is : MFv yX8_is := ⟨tw_1089, tp_64⟩
theorem mv_X8_isAt : MFv yX8_isAt := ⟨tw_1022, tp_51⟩
theorem mv_X8_isBehind : MFv yX8_isBehind := ⟨tw_1045, tp_55⟩
theorem mv_X8_isLike : MFv yX8_isLike := ⟨tw_1137, tp_70⟩
theorem mv_X8_isSo : MFv yX8_isSo := ⟨tw_1125, tp_68⟩
theorem mv_X8_isTold : MFv yX8_isTold := ⟨tw_1220, tp_80⟩
theorem mv_X8_item : MFv yX8_item := ⟨tw_1096, tw_1097⟩
theorem mv_X8_judge : MFv yX8_judge := ⟨tw_1227, tw_1228⟩
theorem mv_X8_kind : MFv yX8_kind := ⟨tw_943, tw_944⟩
theorem mv_X8_layer : MFv yX8_layer := ⟨tw_1036, tw_1037⟩
theorem mv_X8_letter : MFv yX8_letter := ⟨tw_1001, tw_1002⟩
theorem mv_X8_lots : MFv yX8_lots := ⟨tw_1235, tw_1236⟩
theorem mv_X8_makes : MFv yX8_makes := ⟨tw_1085, tp_63⟩
theorem mv_X8_manner : MFv yX8_manner := ⟨tw_947, tw_948⟩
theorem mv_X8_mean : MFv yX8_mean := ⟨tw_1203, tw_1204⟩
theorem mv_X8_merges : MFv yX8_merges := ⟨tw_1093, tp_65⟩
theorem mv_X8_missing : MFv yX8_missing := ⟨tw_1188, tw_1189⟩
theorem mv_X8_no : MFv yX8_no := ⟨tw_940, tp_42⟩
theorem mv_X8_noLong : MFv yX8_noLong := ⟨tw_1193, tp_77⟩
theorem mv_X8_numberOf : MFv yX8_numberOf := ⟨tw_1153, tp_73⟩
theorem mv_X8_numberWith : MFv yX8_numberWith := ⟨tw_1149, tp_72⟩
theorem mv_X8_offers : MFv yX8_offers := ⟨tw_1057, tp_56⟩
theorem mv_X8_on : MFv yX8_on := ⟨tw_1254, tw_1255⟩
theorem mv_X8_onNow : MFv yX8_onNow := ⟨tw_1173, tp_74⟩
theorem mv_X8_ordered : MFv yX8_ordered := ⟨tw_1061, tp_57⟩
theorem mv_X8_puts : MFv yX8_puts := ⟨tw_978, tp_46⟩
theorem mv_X8_rank : MFv yX8_rank := ⟨tw_1041, tp_54⟩
theorem mv_X8_refers : MFv yX8_refers := ⟨tw_981, tw_982⟩
theorem mv_X8_resolves : MFv yX8_resolves := ⟨tw_1069, tp_59⟩
theorem mv_X8_resolves_ : MFv yX8_resolves_ := ⟨tw_1073, tp_60⟩
theorem mv_X8_row : MFv yX8_row := ⟨tw_1223, tw_1224⟩
theorem mv_X8_set : MFv yX8_set := ⟨tw_1160, tw_1161⟩
theorem mv_X8_sets : MFv yX8_sets := ⟨tw_954, tw_955⟩
theorem mv_X8_settings : MFv yX8_settings := ⟨tw_1005, tw_1006⟩
theorem mv_X8_since : MFv yX8_since := ⟨tw_1184, tw_1185⟩
theorem mv_X8_sources : MFv yX8_sources := ⟨tw_1104, tw_1105⟩
theorem mv_X8_statement : MFv yX8_statement := ⟨tw_1010, tp_48⟩
theorem mv_X8_sum : MFv yX8_sum := ⟨tw_1208, tp_78⟩
theorem mv_X8_takes : MFv yX8_takes := ⟨tw_1081, tp_62⟩
theorem mv_X8_takes_ : MFv yX8_takes_ := ⟨tw_1018, tp_50⟩
theorem mv_X8_tell : MFv yX8_tell := ⟨tw_959, tp_43⟩
theorem mv_X8_tells : MFv yX8_tells := ⟨tw_1133, tp_69⟩
theorem mv_X8_told : MFv yX8_told := ⟨tw_1141, tp_71⟩
theorem mv_X8_turn : MFv yX8_turn := ⟨tw_1156, tw_1157⟩
theorem mv_X8_turns : MFv yX8_turns := ⟨tw_929, tw_930⟩
theorem mv_X8_turnsTo : MFv yX8_turnsTo := ⟨tw_1177, tp_75⟩
theorem mv_X8_twoDigits : MFv yX8_twoDigits := ⟨tw_1030, tp_53⟩
theorem mv_X8_uses : MFv yX8_uses := ⟨tw_1108, tw_1109⟩
theorem mv_X8_usesOf : MFv yX8_usesOf := ⟨tw_1113, tp_66⟩
theorem mv_X8_value : MFv yX8_value := ⟨tw_1052, tw_1053⟩
theorem mv_X8_whatIs : MFv yX8_whatIs := ⟨tw_1211, tw_1212⟩
theorem mv_X8_without : MFv yX8_without := ⟨tw_1144, tw_1145⟩
theorem mv_X8_wrongInRow : MFv yX8_wrongInRow := ⟨tw_1216, tp_79⟩
theorem pv_0_0 (a o : Nat) (r : Nat → Int32) (y : Int32) : flds a o (upd r 0 y) 0 = (flds a o r 0).set 0 (.int y) := rfl
theorem pv_1_0 (a o : Nat) (r : Nat → Int32) (y : Int32) : flds a o (upd r 0 y) 1 = (flds a o r 1).set 0 (.int y) := rfl
theorem pv_1_1 (a o : Nat) (r : Nat → Int32) (y : Int32) : flds a o (upd r 1 y) 1 = (flds a o r 1).set 1 (.int y) := rfl
theorem pv_1_5 (a o : Nat) (r : Nat → Int32) (y : Int32) : flds a o (upd r 5 y) 1 = (flds a o r 1).set 5 (.int y) := rfl
theorem pv_1_8 (a o : Nat) (r : Nat → Int32) (y : Int32) : flds a o (upd r 8 y) 1 = (flds a o r 1).set 8 (.int y) := rfl
theorem pv_1_9 (a o : Nat) (r : Nat → Int32) (y : Int32) : flds a o (upd r 9 y) 1 = (flds a o r 1).set 9 (.int y) := rfl
theorem pv_1_11 (a o : Nat) (r : Nat → Int32) (y : Int32) : flds a o (upd r 11 y) 1 = (flds a o r 1).set 11 (.int y) := rfl
theorem pv_1_12 (a o : Nat) (r : Nat → Int32) (y : Int32) : flds a o (upd r 12 y) 1 = (flds a o r 1).set 12 (.int y) := rfl
theorem pv_1_13 (a o : Nat) (r : Nat → Int32) (y : Int32) : flds a o (upd r 13 y) 1 = (flds a o r 1).set 13 (.int y) := rfl
theorem pv_2_1 (a o : Nat) (r : Nat → Int32) (y : Int32) : flds a o (upd r 1 y) 2 = (flds a o r 2).set 1 (.int y) := rfl
theorem pv_2_2 (a o : Nat) (r : Nat → Int32) (y : Int32) : flds a o (upd r 2 y) 2 = (flds a o r 2).set 2 (.int y) := rfl
theorem pv_2_3 (a o : Nat) (r : Nat → Int32) (y : Int32) : flds a o (upd r 3 y) 2 = (flds a o r 2).set 3 (.int y) := rfl
theorem pv_3_1 (a o : Nat) (r : Nat → Int32) (y : Int32) : flds a o (upd r 1 y) 3 = (flds a o r 3).set 1 (.int y) := rfl
theorem pv_4_0 (a o : Nat) (r : Nat → Int32) (y : Int32) : flds a o (upd r 0 y) 4 = (flds a o r 4).set 0 (.int y) := rfl
theorem pv_5_0 (a o : Nat) (r : Nat → Int32) (y : Int32) : flds a o (upd r 0 y) 5 = (flds a o r 5).set 0 (.int y) := rfl
theorem pv_5_1 (a o : Nat) (r : Nat → Int32) (y : Int32) : flds a o (upd r 1 y) 5 = (flds a o r 5).set 1 (.int y) := rfl
theorem pv_5_2 (a o : Nat) (r : Nat → Int32) (y : Int32) : flds a o (upd r 2 y) 5 = (flds a o r 5).set 2 (.int y) := rfl
theorem pv_5_3 (a o : Nat) (r : Nat → Int32) (y : Int32) : flds a o (upd r 3 y) 5 = (flds a o r 5).set 3 (.int y) := rfl
theorem pv_5_4 (a o : Nat) (r : Nat → Int32) (y : Int32) : flds a o (upd r 4 y) 5 = (flds a o r 5).set 4 (.int y) := rfl
theorem pv_5_5 (a o : Nat) (r : Nat → Int32) (y : Int32) : flds a o (upd r 5 y) 5 = (flds a o r 5).set 5 (.int y) := rfl
theorem pv_5_6 (a o : Nat) (r : Nat → Int32) (y : Int32) : flds a o (upd r 6 y) 5 = (flds a o r 5).set 6 (.int y) := rfl
theorem pv_5_7 (a o : Nat) (r : Nat → Int32) (y : Int32) : flds a o (upd r 7 y) 5 = (flds a o r 5).set 7 (.int y) := rfl
theorem pv_5_8 (a o : Nat) (r : Nat → Int32) (y : Int32) : flds a o (upd r 8 y) 5 = (flds a o r 5).set 8 (.int y) := rfl
theorem pv_5_9 (a o : Nat) (r : Nat → Int32) (y : Int32) : flds a o (upd r 9 y) 5 = (flds a o r 5).set 9 (.int y) := rfl
theorem pv_5_10 (a o : Nat) (r : Nat → Int32) (y : Int32) : flds a o (upd r 10 y) 5 = (flds a o r 5).set 10 (.int y) := rfl
theorem pv_5_11 (a o : Nat) (r : Nat → Int32) (y : Int32) : flds a o (upd r 11 y) 5 = (flds a o r 5).set 11 (.int y) := rfl
theorem pv_6_1 (a o : Nat) (r : Nat → Int32) (y : Int32) : flds a o (upd r 1 y) 6 = (flds a o r 6).set 1 (.int y) := rfl
theorem pv_6_2 (a o : Nat) (r : Nat → Int32) (y : Int32) : flds a o (upd r 2 y) 6 = (flds a o r 6).set 2 (.int y) := rfl
theorem pv_7_9 (a o : Nat) (r : Nat → Int32) (y : Int32) : flds a o (upd r 9 y) 7 = (flds a o r 7).set 9 (.int y) := rfl
theorem pv_8_7 (a o : Nat) (r : Nat → Int32) (y : Int32) : flds a o (upd r 7 y) 8 = (flds a o r 8).set 7 (.int y) := rfl
theorem pv_8_8 (a o : Nat) (r : Nat → Int32) (y : Int32) : flds a o (upd r 8 y) 8 = (flds a o r 8).set 8 (.int y) := rfl
theorem pv_8_9 (a o : Nat) (r : Nat → Int32) (y : Int32) : flds a o (upd r 9 y) 8 = (flds a o r 8).set 9 (.int y) := rfl
theorem pv_8_10 (a o : Nat) (r : Nat → Int32) (y : Int32) : flds a o (upd r 10 y) 8 = (flds a o r 8).set 10 (.int y) := rfl
theorem pv_8_11 (a o : Nat) (r : Nat → Int32) (y : Int32) : flds a o (upd r 11 y) 8 = (flds a o r 8).set 11 (.int y) := rfl
theorem pv_8_12 (a o : Nat) (r : Nat → Int32) (y : Int32) : flds a o (upd r 12 y) 8 = (flds a o r 8).set 12 (.int y) := rfl
theorem pv_8_24 (a o : Nat) (r : Nat → Int32) (y : Int32) : flds a o (upd r 24 y) 8 = (flds a o r 8).set 24 (.int y) := rfl
theorem pv_8_25 (a o : Nat) (r : Nat → Int32) (y : Int32) : flds a o (upd r 25 y) 8 = (flds a o r 8).set 25 (.int y) := rfl
theorem pv_8_26 (a o : Nat) (r : Nat → Int32) (y : Int32) : flds a o (upd r 26 y) 8 = (flds a o r 8).set 26 (.int y) := rfl
theorem okO_33 : ∀ d, d < 9 → okO (34 + 7 * d) := fun d hd => Or.inl ⟨d, hd, rfl⟩
theorem okO_105 : ∀ d, d < 8 → okO (107 + 7 * d) := fun d hd => Or.inr ⟨d, hd, rfl⟩
theorem okO_34 : okO 34 := Or.inl ⟨0, by decide, rfl⟩
section NM
variable {α : Type} {k : KT} {q : α} {w : WW} {pc : Nat} {L : List (Nat × Value)} {st : List Value} {M : Mem}
theorem GG_nm {e : Int32} {g : Int32 → Option α} (x : ∀ y, y = e → GG k q w pc L (.int y :: st) (g y)) : GG k q w pc L (.int e :: st) (Option.bind (some e) g) := x e rfl
theorem GG_nml {e : Int64} {g : Int64 → Option α} (x : ∀ y, y = e → GG k q w pc L (.long y :: st) (g y)) : GG k q w pc L (.long e :: st) (Option.bind (some e) g) := x e rfl
theorem GG_mmax {cc : ByteArray} {own : String} {nL h : Nat} {ret : Option FieldType} {t : Option α} {pc' : Nat} (hk : CX k cc own nL ret h) {ix : Nat} {a b : Int32} (hw : Cond.methodLink own ix Lib.Math.max.name ∈ tblG) (w1 : Cond.static Lib.Math.max.name ∈ tblG) (w2 : Cond.initialized "java/lang/Math" ∈ tblG) (w3 : Cond.code Lib.Math.max.name Lib.Math.max.code 2 (some .int) ∈ tblG) (hh : 1 ≤ h) (hst : (st.map fun v => v.category).sum ≤ 8) (hd : decode cc pc = .ok (.invokestatic ix, 3)) (hp : pc + 3 = pc') (x : GG k q (wM k M) pc' L (.int (if a < b then b else a) :: st) t) : GG k q (wM k M) pc L (.int b :: .int a :: st) t := by
  subst hp
  intro ht H locs hP hS ls hl
  have hfr := hk.2.2.2.2.2.2.2.2.1
  have hlo := hk.2.2.2.2.2.2.2.2.2.1
  exact va_mmax hk.1 hk.2.1 hl.1.symm hk.ow (hk.ts _ hw) (hk.ts _ w1) (hk.ts _ w2) (hk.ts _ w3) (by omega) (by omega) hk.2.2.2.2.2.2.2.2.2.2.1 hk.2.2.2.2.2.2.2.2.2.2.2 hd (x ht H locs hP hS ls hl)
end NM
theorem sw_out_0_2 {x : Int32} (h0 : ¬ x = 0) (h1 : ¬ x = 1) (h2 : ¬ x = 2) : x.toInt < 0 ∨ 2 < x.toInt := by
  have g0 := sw_ne h0
  rw [show Int32.toInt 0 = (0 : Int) from rfl] at g0
  have g1 := sw_ne h1
  rw [show Int32.toInt 1 = (1 : Int) from rfl] at g1
  have g2 := sw_ne h2
  rw [show Int32.toInt 2 = (2 : Int) from rfl] at g2
  omega
theorem sw_out_0_5 {x : Int32} (h0 : ¬ x = 0) (h1 : ¬ x = 1) (h2 : ¬ x = 2) (h3 : ¬ x = 3) (h4 : ¬ x = 4) (h5 : ¬ x = 5) : x.toInt < 0 ∨ 5 < x.toInt := by
  have g0 := sw_ne h0
  rw [show Int32.toInt 0 = (0 : Int) from rfl] at g0
  have g1 := sw_ne h1
  rw [show Int32.toInt 1 = (1 : Int) from rfl] at g1
  have g2 := sw_ne h2
  rw [show Int32.toInt 2 = (2 : Int) from rfl] at g2
  have g3 := sw_ne h3
  rw [show Int32.toInt 3 = (3 : Int) from rfl] at g3
  have g4 := sw_ne h4
  rw [show Int32.toInt 4 = (4 : Int) from rfl] at g4
  have g5 := sw_ne h5
  rw [show Int32.toInt 5 = (5 : Int) from rfl] at g5
  omega
theorem sw_out_0_6 {x : Int32} (h0 : ¬ x = 0) (h1 : ¬ x = 1) (h2 : ¬ x = 2) (h3 : ¬ x = 3) (h4 : ¬ x = 4) (h5 : ¬ x = 5) (h6 : ¬ x = 6) : x.toInt < 0 ∨ 6 < x.toInt := by
  have g0 := sw_ne h0
  rw [show Int32.toInt 0 = (0 : Int) from rfl] at g0
  have g1 := sw_ne h1
  rw [show Int32.toInt 1 = (1 : Int) from rfl] at g1
  have g2 := sw_ne h2
  rw [show Int32.toInt 2 = (2 : Int) from rfl] at g2
  have g3 := sw_ne h3
  rw [show Int32.toInt 3 = (3 : Int) from rfl] at g3
  have g4 := sw_ne h4
  rw [show Int32.toInt 4 = (4 : Int) from rfl] at g4
  have g5 := sw_ne h5
  rw [show Int32.toInt 5 = (5 : Int) from rfl] at g5
  have g6 := sw_ne h6
  rw [show Int32.toInt 6 = (6 : Int) from rfl] at g6
  omega
theorem sw_out_0_34 {x : Int32} (h0 : ¬ x = 0) (h1 : ¬ x = 1) (h2 : ¬ x = 2) (h3 : ¬ x = 3) (h4 : ¬ x = 4) (h5 : ¬ x = 5) (h6 : ¬ x = 6) (h7 : ¬ x = 7) (h8 : ¬ x = 8) (h9 : ¬ x = 9) (h10 : ¬ x = 10) (h11 : ¬ x = 11) (h12 : ¬ x = 12) (h13 : ¬ x = 13) (h14 : ¬ x = 14) (h15 : ¬ x = 15) (h16 : ¬ x = 16) (h17 : ¬ x = 17) (h18 : ¬ x = 18) (h19 : ¬ x = 19) (h20 : ¬ x = 20) (h21 : ¬ x = 21) (h22 : ¬ x = 22) (h23 : ¬ x = 23) (h24 : ¬ x = 24) (h25 : ¬ x = 25) (h26 : ¬ x = 26) (h27 : ¬ x = 27) (h28 : ¬ x = 28) (h29 : ¬ x = 29) (h30 : ¬ x = 30) (h31 : ¬ x = 31) (h32 : ¬ x = 32) (h33 : ¬ x = 33) (h34 : ¬ x = 34) : x.toInt < 0 ∨ 34 < x.toInt := by
  have g0 := sw_ne h0
  rw [show Int32.toInt 0 = (0 : Int) from rfl] at g0
  have g1 := sw_ne h1
  rw [show Int32.toInt 1 = (1 : Int) from rfl] at g1
  have g2 := sw_ne h2
  rw [show Int32.toInt 2 = (2 : Int) from rfl] at g2
  have g3 := sw_ne h3
  rw [show Int32.toInt 3 = (3 : Int) from rfl] at g3
  have g4 := sw_ne h4
  rw [show Int32.toInt 4 = (4 : Int) from rfl] at g4
  have g5 := sw_ne h5
  rw [show Int32.toInt 5 = (5 : Int) from rfl] at g5
  have g6 := sw_ne h6
  rw [show Int32.toInt 6 = (6 : Int) from rfl] at g6
  have g7 := sw_ne h7
  rw [show Int32.toInt 7 = (7 : Int) from rfl] at g7
  have g8 := sw_ne h8
  rw [show Int32.toInt 8 = (8 : Int) from rfl] at g8
  have g9 := sw_ne h9
  rw [show Int32.toInt 9 = (9 : Int) from rfl] at g9
  have g10 := sw_ne h10
  rw [show Int32.toInt 10 = (10 : Int) from rfl] at g10
  have g11 := sw_ne h11
  rw [show Int32.toInt 11 = (11 : Int) from rfl] at g11
  have g12 := sw_ne h12
  rw [show Int32.toInt 12 = (12 : Int) from rfl] at g12
  have g13 := sw_ne h13
  rw [show Int32.toInt 13 = (13 : Int) from rfl] at g13
  have g14 := sw_ne h14
  rw [show Int32.toInt 14 = (14 : Int) from rfl] at g14
  have g15 := sw_ne h15
  rw [show Int32.toInt 15 = (15 : Int) from rfl] at g15
  have g16 := sw_ne h16
  rw [show Int32.toInt 16 = (16 : Int) from rfl] at g16
  have g17 := sw_ne h17
  rw [show Int32.toInt 17 = (17 : Int) from rfl] at g17
  have g18 := sw_ne h18
  rw [show Int32.toInt 18 = (18 : Int) from rfl] at g18
  have g19 := sw_ne h19
  rw [show Int32.toInt 19 = (19 : Int) from rfl] at g19
  have g20 := sw_ne h20
  rw [show Int32.toInt 20 = (20 : Int) from rfl] at g20
  have g21 := sw_ne h21
  rw [show Int32.toInt 21 = (21 : Int) from rfl] at g21
  have g22 := sw_ne h22
  rw [show Int32.toInt 22 = (22 : Int) from rfl] at g22
  have g23 := sw_ne h23
  rw [show Int32.toInt 23 = (23 : Int) from rfl] at g23
  have g24 := sw_ne h24
  rw [show Int32.toInt 24 = (24 : Int) from rfl] at g24
  have g25 := sw_ne h25
  rw [show Int32.toInt 25 = (25 : Int) from rfl] at g25
  have g26 := sw_ne h26
  rw [show Int32.toInt 26 = (26 : Int) from rfl] at g26
  have g27 := sw_ne h27
  rw [show Int32.toInt 27 = (27 : Int) from rfl] at g27
  have g28 := sw_ne h28
  rw [show Int32.toInt 28 = (28 : Int) from rfl] at g28
  have g29 := sw_ne h29
  rw [show Int32.toInt 29 = (29 : Int) from rfl] at g29
  have g30 := sw_ne h30
  rw [show Int32.toInt 30 = (30 : Int) from rfl] at g30
  have g31 := sw_ne h31
  rw [show Int32.toInt 31 = (31 : Int) from rfl] at g31
  have g32 := sw_ne h32
  rw [show Int32.toInt 32 = (32 : Int) from rfl] at g32
  have g33 := sw_ne h33
  rw [show Int32.toInt 33 = (33 : Int) from rfl] at g33
  have g34 := sw_ne h34
  rw [show Int32.toInt 34 = (34 : Int) from rfl] at g34
  omega
theorem sw_out_1_5 {x : Int32} (h0 : ¬ x = 1) (h1 : ¬ x = 2) (h2 : ¬ x = 3) (h3 : ¬ x = 4) (h4 : ¬ x = 5) : x.toInt < 1 ∨ 5 < x.toInt := by
  have g0 := sw_ne h0
  rw [show Int32.toInt 1 = (1 : Int) from rfl] at g0
  have g1 := sw_ne h1
  rw [show Int32.toInt 2 = (2 : Int) from rfl] at g1
  have g2 := sw_ne h2
  rw [show Int32.toInt 3 = (3 : Int) from rfl] at g2
  have g3 := sw_ne h3
  rw [show Int32.toInt 4 = (4 : Int) from rfl] at g3
  have g4 := sw_ne h4
  rw [show Int32.toInt 5 = (5 : Int) from rfl] at g4
  omega
theorem sw_out_2_4 {x : Int32} (h0 : ¬ x = 2) (h1 : ¬ x = 3) (h2 : ¬ x = 4) : x.toInt < 2 ∨ 4 < x.toInt := by
  have g0 := sw_ne h0
  rw [show Int32.toInt 2 = (2 : Int) from rfl] at g0
  have g1 := sw_ne h1
  rw [show Int32.toInt 3 = (3 : Int) from rfl] at g1
  have g2 := sw_ne h2
  rw [show Int32.toInt 4 = (4 : Int) from rfl] at g2
  omega
theorem sw_out_100_111 {x : Int32} (h0 : ¬ x = 100) (h1 : ¬ x = 101) (h2 : ¬ x = 102) (h3 : ¬ x = 103) (h4 : ¬ x = 104) (h5 : ¬ x = 105) (h6 : ¬ x = 106) (h7 : ¬ x = 107) (h8 : ¬ x = 108) (h9 : ¬ x = 109) (h10 : ¬ x = 110) (h11 : ¬ x = 111) : x.toInt < 100 ∨ 111 < x.toInt := by
  have g0 := sw_ne h0
  rw [show Int32.toInt 100 = (100 : Int) from rfl] at g0
  have g1 := sw_ne h1
  rw [show Int32.toInt 101 = (101 : Int) from rfl] at g1
  have g2 := sw_ne h2
  rw [show Int32.toInt 102 = (102 : Int) from rfl] at g2
  have g3 := sw_ne h3
  rw [show Int32.toInt 103 = (103 : Int) from rfl] at g3
  have g4 := sw_ne h4
  rw [show Int32.toInt 104 = (104 : Int) from rfl] at g4
  have g5 := sw_ne h5
  rw [show Int32.toInt 105 = (105 : Int) from rfl] at g5
  have g6 := sw_ne h6
  rw [show Int32.toInt 106 = (106 : Int) from rfl] at g6
  have g7 := sw_ne h7
  rw [show Int32.toInt 107 = (107 : Int) from rfl] at g7
  have g8 := sw_ne h8
  rw [show Int32.toInt 108 = (108 : Int) from rfl] at g8
  have g9 := sw_ne h9
  rw [show Int32.toInt 109 = (109 : Int) from rfl] at g9
  have g10 := sw_ne h10
  rw [show Int32.toInt 110 = (110 : Int) from rfl] at g10
  have g11 := sw_ne h11
  rw [show Int32.toInt 111 = (111 : Int) from rfl] at g11
  omega
