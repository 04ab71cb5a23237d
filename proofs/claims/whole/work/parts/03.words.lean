/-! the words of the tables, by their places -/
def tbG : List Cond := lw_tbl.filter goodWord
theorem tb_m {w : Cond} (h : w ∈ lw_tbl) (g : goodWord w = true) : w ∈ tbG := List.mem_filter.mpr ⟨h, g⟩
theorem tb_1 {w : Cond} {i : Nat} (h : tables_1_1[i]? = some w) (g : goodWord w = true) : w ∈ tbG := tb_m (List.mem_append_right _ (show w ∈ tables_1_1 ++ (tables_1_2 ++ (tables_1_3 ++ (tables_1_4 ++ tables_1_5))) from List.mem_append_left _ (List.mem_of_getElem? h))) g
theorem tb_2 {w : Cond} {i : Nat} (h : tables_1_2[i]? = some w) (g : goodWord w = true) : w ∈ tbG := tb_m (List.mem_append_right _ (show w ∈ tables_1_1 ++ (tables_1_2 ++ (tables_1_3 ++ (tables_1_4 ++ tables_1_5))) from List.mem_append_right _ (List.mem_append_left _ (List.mem_of_getElem? h)))) g
theorem tb_3 {w : Cond} {i : Nat} (h : tables_1_3[i]? = some w) (g : goodWord w = true) : w ∈ tbG := tb_m (List.mem_append_right _ (show w ∈ tables_1_1 ++ (tables_1_2 ++ (tables_1_3 ++ (tables_1_4 ++ tables_1_5))) from List.mem_append_right _ (List.mem_append_right _ (List.mem_append_left _ (List.mem_of_getElem? h))))) g
theorem tb_4 {w : Cond} {i : Nat} (h : tables_1_4[i]? = some w) (g : goodWord w = true) : w ∈ tbG := tb_m (List.mem_append_right _ (show w ∈ tables_1_1 ++ (tables_1_2 ++ (tables_1_3 ++ (tables_1_4 ++ tables_1_5))) from List.mem_append_right _ (List.mem_append_right _ (List.mem_append_right _ (List.mem_append_left _ (List.mem_of_getElem? h)))))) g
theorem tb_5 {w : Cond} {i : Nat} (h : tables_1_5[i]? = some w) (g : goodWord w = true) : w ∈ tbG := tb_m (List.mem_append_right _ (show w ∈ tables_1_1 ++ (tables_1_2 ++ (tables_1_3 ++ (tables_1_4 ++ tables_1_5))) from List.mem_append_right _ (List.mem_append_right _ (List.mem_append_right _ (List.mem_append_right _ (List.mem_of_getElem? h)))))) g
theorem tb_s1 {q : MethodName × Nat} {i : Nat} (h : lw_privs_1[i]? = some q) : Cond.selects q.1.cls q.1 q.1 ∈ tbG := tb_m (List.mem_append_left _ (List.mem_map.mpr ⟨q, show q ∈ lw_privs_1 ++ (lw_privs_2 ++ (lw_privs_3 ++ (lw_privs_4))) from List.mem_append_left _ (List.mem_of_getElem? h), rfl⟩)) rfl
theorem tb_s2 {q : MethodName × Nat} {i : Nat} (h : lw_privs_2[i]? = some q) : Cond.selects q.1.cls q.1 q.1 ∈ tbG := tb_m (List.mem_append_left _ (List.mem_map.mpr ⟨q, show q ∈ lw_privs_1 ++ (lw_privs_2 ++ (lw_privs_3 ++ (lw_privs_4))) from List.mem_append_right _ (List.mem_append_left _ (List.mem_of_getElem? h)), rfl⟩)) rfl
theorem tb_s3 {q : MethodName × Nat} {i : Nat} (h : lw_privs_3[i]? = some q) : Cond.selects q.1.cls q.1 q.1 ∈ tbG := tb_m (List.mem_append_left _ (List.mem_map.mpr ⟨q, show q ∈ lw_privs_1 ++ (lw_privs_2 ++ (lw_privs_3 ++ (lw_privs_4))) from List.mem_append_right _ (List.mem_append_right _ (List.mem_append_left _ (List.mem_of_getElem? h))), rfl⟩)) rfl
theorem tb_s4 {q : MethodName × Nat} {i : Nat} (h : lw_privs_4[i]? = some q) : Cond.selects q.1.cls q.1 q.1 ∈ tbG := tb_m (List.mem_append_left _ (List.mem_map.mpr ⟨q, show q ∈ lw_privs_1 ++ (lw_privs_2 ++ (lw_privs_3 ++ (lw_privs_4))) from List.mem_append_right _ (List.mem_append_right _ (List.mem_append_right _ ((List.mem_of_getElem? h)))), rfl⟩)) rfl
theorem kw_0 : (Jvm.Cond.initialized "NextBenchLaw") ∈ tbG := tb_1 (i := 0) rfl rfl
theorem kw_1 : (Jvm.Cond.initialized "NextBench") ∈ tbG := tb_1 (i := 1) rfl rfl
theorem kw_2 : (Jvm.Cond.initialized "NextBench$Pad") ∈ tbG := tb_1 (i := 2) rfl rfl
theorem kw_3 : (Jvm.Cond.initialized "NextBench$Scene") ∈ tbG := tb_1 (i := 3) rfl rfl
theorem kw_4 : (Jvm.Cond.initialized "NextBench$Bench") ∈ tbG := tb_1 (i := 4) rfl rfl
theorem kw_5 : (Jvm.Cond.initialized "NextBench$Sitters") ∈ tbG := tb_1 (i := 5) rfl rfl
theorem kw_6 : (Jvm.Cond.initialized "NextBench$Sets") ∈ tbG := tb_1 (i := 6) rfl rfl
theorem kw_7 : (Jvm.Cond.initialized "NextBench$Census") ∈ tbG := tb_1 (i := 7) rfl rfl
theorem kw_8 : (Jvm.Cond.initialized "NextBench$Match") ∈ tbG := tb_1 (i := 8) rfl rfl
theorem kw_9 : (Jvm.Cond.initialized "NextBench$Couples") ∈ tbG := tb_1 (i := 9) rfl rfl
theorem kw_10 : (Jvm.Cond.initialized "NextBench$Passing") ∈ tbG := tb_1 (i := 10) rfl rfl
theorem kw_11 : (Jvm.Cond.initialized "NextBench$LongRows") ∈ tbG := tb_1 (i := 11) rfl rfl
theorem kw_12 : (Jvm.Cond.initialized "NextBenchModel") ∈ tbG := tb_1 (i := 12) rfl rfl
theorem kw_13 : (Jvm.Cond.initialized "java/util/Arrays") ∈ tbG := tb_1 (i := 13) rfl rfl
theorem kw_14 : (Jvm.Cond.initialized "java/lang/Math") ∈ tbG := tb_1 (i := 14) rfl rfl
theorem kw_15 : (Jvm.Cond.initialized "java/lang/Integer") ∈ tbG := tb_1 (i := 15) rfl rfl
theorem kw_16 : (Jvm.Cond.initialized "java/lang/System") ∈ tbG := tb_1 (i := 16) rfl rfl
theorem kw_17 : (Jvm.Cond.classLink "NextBenchLaw" (7 : Nat) "NextBench") ∈ tbG := tb_1 (i := 17) rfl rfl
theorem kw_18 : (Jvm.Cond.instantiable "NextBench" (13 : Nat)) ∈ tbG := tb_1 (i := 18) rfl rfl
theorem kw_19 : (Jvm.Cond.methodLink "NextBenchLaw" (9 : Nat) ({ cls := "NextBench", name := "<init>", desc := "()V" } : Jvm.MethodName)) ∈ tbG := tb_1 (i := 19) rfl rfl
theorem kw_20 : (Jvm.Cond.instanceMethod ({ cls := "NextBench", name := "<init>", desc := "()V" } : Jvm.MethodName)) ∈ tbG := tb_1 (i := 20) rfl rfl
theorem kw_21 : (Jvm.Cond.code ({ cls := "NextBench", name := "<init>", desc := "()V" } : Jvm.MethodName) prog_1_method_1_code (1 : Nat) (Option.none : Option Jvm.ClassFile.FieldType)) ∈ tbG := tb_1 (i := 21) rfl rfl
theorem kw_22 : (Jvm.Cond.methodLink "NextBench" (3 : Nat) ({ cls := "java/lang/Object", name := "<init>", desc := "()V" } : Jvm.MethodName)) ∈ tbG := tb_1 (i := 22) rfl rfl
theorem kw_23 : (Jvm.Cond.instanceMethod ({ cls := "java/lang/Object", name := "<init>", desc := "()V" } : Jvm.MethodName)) ∈ tbG := tb_1 (i := 23) rfl rfl
theorem kw_24 : (Jvm.Cond.code ({ cls := "java/lang/Object", name := "<init>", desc := "()V" } : Jvm.MethodName) object_method_1_code (1 : Nat) (Option.none : Option Jvm.ClassFile.FieldType)) ∈ tbG := tb_1 (i := 24) rfl rfl
theorem kw_25 : (Jvm.Cond.classLink "NextBench" (9 : Nat) "NextBench$Pad") ∈ tbG := tb_1 (i := 25) rfl rfl
theorem kw_26 : (Jvm.Cond.instantiable "NextBench$Pad" (2 : Nat)) ∈ tbG := tb_1 (i := 26) rfl rfl
theorem kw_27 : (Jvm.Cond.methodLink "NextBench" (11 : Nat) ({ cls := "NextBench$Pad", name := "<init>", desc := "()V" } : Jvm.MethodName)) ∈ tbG := tb_1 (i := 27) rfl rfl
theorem kw_28 : (Jvm.Cond.instanceMethod ({ cls := "NextBench$Pad", name := "<init>", desc := "()V" } : Jvm.MethodName)) ∈ tbG := tb_1 (i := 28) rfl rfl
theorem kw_29 : (Jvm.Cond.code ({ cls := "NextBench$Pad", name := "<init>", desc := "()V" } : Jvm.MethodName) prog_7_method_1_code (1 : Nat) (Option.none : Option Jvm.ClassFile.FieldType)) ∈ tbG := tb_1 (i := 29) rfl rfl
theorem kw_30 : (Jvm.Cond.methodLink "NextBench$Pad" (3 : Nat) ({ cls := "java/lang/Object", name := "<init>", desc := "()V" } : Jvm.MethodName)) ∈ tbG := tb_1 (i := 30) rfl rfl
theorem kw_31 : (Jvm.Cond.fieldLink "NextBench$Pad" (9 : Nat) "NextBench$Pad" "signs" "[I") ∈ tbG := tb_1 (i := 31) rfl rfl
theorem kw_32 : (Jvm.Cond.fieldLink "NextBench$Pad" (15 : Nat) "NextBench$Pad" "count" "I") ∈ tbG := tb_1 (i := 32) rfl rfl
theorem kw_33 : (Jvm.Cond.fieldLink "NextBench" (107 : Nat) "NextBench$Pad" "count" "I") ∈ tbG := tb_1 (i := 33) rfl rfl
theorem kw_34 : (Jvm.Cond.laysFinal "NextBench$Pad" "NextBench$Pad" "signs" "[I") ∈ tbG := tb_1 (i := 34) rfl rfl
theorem kw_36 : (Jvm.Cond.lays "NextBench$Pad" "NextBench$Pad" "count" "I") ∈ tbG := tb_1 (i := 36) rfl rfl
theorem kw_39 : (Jvm.Cond.arrayClass Jvm.ClassFile.FieldType.int) ∈ tbG := tb_1 (i := 39) rfl rfl
theorem kw_40 : (Jvm.Cond.classLink "NextBench" (16 : Nat) "NextBench$Scene") ∈ tbG := tb_1 (i := 40) rfl rfl
theorem kw_41 : (Jvm.Cond.instantiable "NextBench$Scene" (9 : Nat)) ∈ tbG := tb_1 (i := 41) rfl rfl
theorem kw_42 : (Jvm.Cond.methodLink "NextBench" (18 : Nat) ({ cls := "NextBench$Scene", name := "<init>", desc := "()V" } : Jvm.MethodName)) ∈ tbG := tb_1 (i := 42) rfl rfl
theorem kw_43 : (Jvm.Cond.instanceMethod ({ cls := "NextBench$Scene", name := "<init>", desc := "()V" } : Jvm.MethodName)) ∈ tbG := tb_1 (i := 43) rfl rfl
theorem kw_44 : (Jvm.Cond.code ({ cls := "NextBench$Scene", name := "<init>", desc := "()V" } : Jvm.MethodName) prog_9_method_1_code (1 : Nat) (Option.none : Option Jvm.ClassFile.FieldType)) ∈ tbG := tb_1 (i := 44) rfl rfl
theorem kw_45 : (Jvm.Cond.methodLink "NextBench$Scene" (3 : Nat) ({ cls := "java/lang/Object", name := "<init>", desc := "()V" } : Jvm.MethodName)) ∈ tbG := tb_1 (i := 45) rfl rfl
theorem kw_46 : (Jvm.Cond.fieldLink "NextBench$Scene" (9 : Nat) "NextBench$Scene" "steps" "[I") ∈ tbG := tb_1 (i := 46) rfl rfl
theorem kw_47 : (Jvm.Cond.fieldLink "NextBench$Bench" (39 : Nat) "NextBench$Scene" "steps" "[I") ∈ tbG := tb_1 (i := 47) rfl rfl
theorem kw_48 : (Jvm.Cond.fieldLink "NextBench" (115 : Nat) "NextBench$Scene" "steps" "[I") ∈ tbG := tb_1 (i := 48) rfl rfl
theorem kw_49 : (Jvm.Cond.fieldLink "NextBench$Scene" (15 : Nat) "NextBench$Scene" "worths" "[I") ∈ tbG := tb_1 (i := 49) rfl rfl
theorem kw_50 : (Jvm.Cond.fieldLink "NextBench" (126 : Nat) "NextBench$Scene" "worths" "[I") ∈ tbG := tb_1 (i := 50) rfl rfl
theorem kw_51 : (Jvm.Cond.fieldLink "NextBench$Sitters" (73 : Nat) "NextBench$Scene" "worths" "[I") ∈ tbG := tb_1 (i := 51) rfl rfl
theorem kw_52 : (Jvm.Cond.fieldLink "NextBench$Scene" (18 : Nat) "NextBench$Scene" "comers" "[I") ∈ tbG := tb_1 (i := 52) rfl rfl
theorem kw_53 : (Jvm.Cond.fieldLink "NextBench" (263 : Nat) "NextBench$Scene" "comers" "[I") ∈ tbG := tb_1 (i := 53) rfl rfl
theorem kw_54 : (Jvm.Cond.fieldLink "NextBench$Scene" (21 : Nat) "NextBench$Scene" "seen" "[I") ∈ tbG := tb_1 (i := 54) rfl rfl
theorem kw_55 : (Jvm.Cond.fieldLink "NextBench$Scene" (24 : Nat) "NextBench$Scene" "seenLengths" "[I") ∈ tbG := tb_1 (i := 55) rfl rfl
theorem kw_56 : (Jvm.Cond.fieldLink "NextBench" (269 : Nat) "NextBench$Scene" "seenLengths" "[I") ∈ tbG := tb_1 (i := 56) rfl rfl
theorem kw_57 : (Jvm.Cond.fieldLink "NextBench$Scene" (27 : Nat) "NextBench$Scene" "seats" "I") ∈ tbG := tb_1 (i := 57) rfl rfl
theorem kw_58 : (Jvm.Cond.fieldLink "NextBench$Couples" (34 : Nat) "NextBench$Scene" "seats" "I") ∈ tbG := tb_1 (i := 58) rfl rfl
theorem kw_59 : (Jvm.Cond.fieldLink "NextBench$Census" (32 : Nat) "NextBench$Scene" "seats" "I") ∈ tbG := tb_1 (i := 59) rfl rfl
theorem kw_60 : (Jvm.Cond.fieldLink "NextBench$Match" (31 : Nat) "NextBench$Scene" "seats" "I") ∈ tbG := tb_1 (i := 60) rfl rfl
theorem kw_61 : (Jvm.Cond.fieldLink "NextBench$Bench" (25 : Nat) "NextBench$Scene" "seats" "I") ∈ tbG := tb_1 (i := 61) rfl rfl
theorem kw_62 : (Jvm.Cond.fieldLink "NextBench$Sets" (53 : Nat) "NextBench$Scene" "seats" "I") ∈ tbG := tb_1 (i := 62) rfl rfl
theorem kw_63 : (Jvm.Cond.fieldLink "NextBench$Sitters" (47 : Nat) "NextBench$Scene" "seats" "I") ∈ tbG := tb_1 (i := 63) rfl rfl
theorem kw_64 : (Jvm.Cond.fieldLink "NextBench" (123 : Nat) "NextBench$Scene" "seats" "I") ∈ tbG := tb_1 (i := 64) rfl rfl
theorem kw_65 : (Jvm.Cond.fieldLink "NextBench$Scene" (31 : Nat) "NextBench$Scene" "bear" "I") ∈ tbG := tb_1 (i := 65) rfl rfl
theorem kw_66 : (Jvm.Cond.fieldLink "NextBench$Sitters" (29 : Nat) "NextBench$Scene" "bear" "I") ∈ tbG := tb_1 (i := 66) rfl rfl
theorem kw_67 : (Jvm.Cond.fieldLink "NextBench$Bench" (42 : Nat) "NextBench$Scene" "bear" "I") ∈ tbG := tb_1 (i := 67) rfl rfl
theorem kw_68 : (Jvm.Cond.fieldLink "NextBench" (144 : Nat) "NextBench$Scene" "bear" "I") ∈ tbG := tb_1 (i := 68) rfl rfl
theorem kw_69 : (Jvm.Cond.fieldLink "NextBench$Scene" (40 : Nat) "NextBench$Scene" "comerCount" "I") ∈ tbG := tb_1 (i := 69) rfl rfl
theorem kw_70 : (Jvm.Cond.fieldLink "NextBench" (260 : Nat) "NextBench$Scene" "comerCount" "I") ∈ tbG := tb_1 (i := 70) rfl rfl
theorem kw_71 : (Jvm.Cond.fieldLink "NextBench$Scene" (43 : Nat) "NextBench$Scene" "seenRows" "I") ∈ tbG := tb_1 (i := 71) rfl rfl
theorem kw_72 : (Jvm.Cond.fieldLink "NextBench" (135 : Nat) "NextBench$Scene" "seenRows" "I") ∈ tbG := tb_1 (i := 72) rfl rfl
theorem kw_73 : (Jvm.Cond.laysFinal "NextBench$Scene" "NextBench$Scene" "steps" "[I") ∈ tbG := tb_1 (i := 73) rfl rfl
theorem kw_75 : (Jvm.Cond.laysFinal "NextBench$Scene" "NextBench$Scene" "worths" "[I") ∈ tbG := tb_1 (i := 75) rfl rfl
theorem kw_77 : (Jvm.Cond.laysFinal "NextBench$Scene" "NextBench$Scene" "comers" "[I") ∈ tbG := tb_1 (i := 77) rfl rfl
theorem kw_79 : (Jvm.Cond.laysFinal "NextBench$Scene" "NextBench$Scene" "seen" "[I") ∈ tbG := tb_1 (i := 79) rfl rfl
theorem kw_81 : (Jvm.Cond.laysFinal "NextBench$Scene" "NextBench$Scene" "seenLengths" "[I") ∈ tbG := tb_1 (i := 81) rfl rfl
theorem kw_83 : (Jvm.Cond.lays "NextBench$Scene" "NextBench$Scene" "seats" "I") ∈ tbG := tb_1 (i := 83) rfl rfl
theorem kw_85 : (Jvm.Cond.lays "NextBench$Scene" "NextBench$Scene" "bear" "I") ∈ tbG := tb_1 (i := 85) rfl rfl
theorem kw_87 : (Jvm.Cond.lays "NextBench$Scene" "NextBench$Scene" "comerCount" "I") ∈ tbG := tb_1 (i := 87) rfl rfl
theorem kw_89 : (Jvm.Cond.lays "NextBench$Scene" "NextBench$Scene" "seenRows" "I") ∈ tbG := tb_1 (i := 89) rfl rfl
theorem kw_93 : (Jvm.Cond.classLink "NextBench" (27 : Nat) "NextBench$Bench") ∈ tbG := tb_1 (i := 93) rfl rfl
theorem kw_94 : (Jvm.Cond.instantiable "NextBench$Bench" (4 : Nat)) ∈ tbG := tb_1 (i := 94) rfl rfl
theorem kw_95 : (Jvm.Cond.methodLink "NextBench" (29 : Nat) ({ cls := "NextBench$Bench", name := "<init>", desc := "(LNextBench$Scene;)V" } : Jvm.MethodName)) ∈ tbG := tb_1 (i := 95) rfl rfl
theorem kw_96 : (Jvm.Cond.instanceMethod ({ cls := "NextBench$Bench", name := "<init>", desc := "(LNextBench$Scene;)V" } : Jvm.MethodName)) ∈ tbG := tb_1 (i := 96) rfl rfl
theorem kw_97 : (Jvm.Cond.code ({ cls := "NextBench$Bench", name := "<init>", desc := "(LNextBench$Scene;)V" } : Jvm.MethodName) prog_2_method_1_code (2 : Nat) (Option.none : Option Jvm.ClassFile.FieldType)) ∈ tbG := tb_1 (i := 97) rfl rfl
theorem kw_98 : (Jvm.Cond.methodLink "NextBench$Bench" (3 : Nat) ({ cls := "java/lang/Object", name := "<init>", desc := "()V" } : Jvm.MethodName)) ∈ tbG := tb_1 (i := 98) rfl rfl
theorem kw_99 : (Jvm.Cond.fieldLink "NextBench$Bench" (9 : Nat) "NextBench$Bench" "scene" "LNextBench$Scene;") ∈ tbG := tb_1 (i := 99) rfl rfl
theorem kw_100 : (Jvm.Cond.fieldLink "NextBench$Couples" (28 : Nat) "NextBench$Bench" "scene" "LNextBench$Scene;") ∈ tbG := tb_1 (i := 100) rfl rfl
theorem kw_101 : (Jvm.Cond.fieldLink "NextBench$Sitters" (23 : Nat) "NextBench$Bench" "scene" "LNextBench$Scene;") ∈ tbG := tb_1 (i := 101) rfl rfl
theorem kw_102 : (Jvm.Cond.fieldLink "NextBench$Census" (28 : Nat) "NextBench$Bench" "scene" "LNextBench$Scene;") ∈ tbG := tb_1 (i := 102) rfl rfl
theorem kw_103 : (Jvm.Cond.fieldLink "NextBench$Match" (27 : Nat) "NextBench$Bench" "scene" "LNextBench$Scene;") ∈ tbG := tb_1 (i := 103) rfl rfl
theorem kw_104 : (Jvm.Cond.fieldLink "NextBench$Sets" (41 : Nat) "NextBench$Bench" "scene" "LNextBench$Scene;") ∈ tbG := tb_1 (i := 104) rfl rfl
theorem kw_105 : (Jvm.Cond.fieldLink "NextBench$Bench" (15 : Nat) "NextBench$Bench" "apart" "[I") ∈ tbG := tb_1 (i := 105) rfl rfl
theorem kw_106 : (Jvm.Cond.fieldLink "NextBench$Bench" (19 : Nat) "NextBench$Bench" "clash" "[I") ∈ tbG := tb_1 (i := 106) rfl rfl
theorem kw_107 : (Jvm.Cond.fieldLink "NextBench$Census" (23 : Nat) "NextBench$Bench" "clash" "[I") ∈ tbG := tb_1 (i := 107) rfl rfl
theorem kw_108 : (Jvm.Cond.fieldLink "NextBench$Match" (22 : Nat) "NextBench$Bench" "clash" "[I") ∈ tbG := tb_1 (i := 108) rfl rfl
theorem kw_109 : (Jvm.Cond.fieldLink "NextBench$Couples" (43 : Nat) "NextBench$Bench" "clash" "[I") ∈ tbG := tb_1 (i := 109) rfl rfl
theorem kw_110 : (Jvm.Cond.fieldLink "NextBench$Sets" (64 : Nat) "NextBench$Bench" "clash" "[I") ∈ tbG := tb_1 (i := 110) rfl rfl
theorem kw_111 : (Jvm.Cond.fieldLink "NextBench$Bench" (22 : Nat) "NextBench$Bench" "neighbours" "[I") ∈ tbG := tb_1 (i := 111) rfl rfl
theorem kw_112 : (Jvm.Cond.fieldLink "NextBench$Sitters" (76 : Nat) "NextBench$Bench" "neighbours" "[I") ∈ tbG := tb_1 (i := 112) rfl rfl
theorem kw_113 : (Jvm.Cond.laysFinal "NextBench$Bench" "NextBench$Bench" "scene" "LNextBench$Scene;") ∈ tbG := tb_1 (i := 113) rfl rfl
theorem kw_115 : (Jvm.Cond.laysFinal "NextBench$Bench" "NextBench$Bench" "apart" "[I") ∈ tbG := tb_1 (i := 115) rfl rfl
theorem kw_117 : (Jvm.Cond.laysFinal "NextBench$Bench" "NextBench$Bench" "clash" "[I") ∈ tbG := tb_1 (i := 117) rfl rfl
theorem kw_119 : (Jvm.Cond.laysFinal "NextBench$Bench" "NextBench$Bench" "neighbours" "[I") ∈ tbG := tb_1 (i := 119) rfl rfl
theorem kw_122 : (Jvm.Cond.classLink "NextBench" (39 : Nat) "NextBench$Sitters") ∈ tbG := tb_1 (i := 122) rfl rfl
theorem kw_123 : (Jvm.Cond.instantiable "NextBench$Sitters" (4 : Nat)) ∈ tbG := tb_1 (i := 123) rfl rfl
theorem kw_124 : (Jvm.Cond.methodLink "NextBench" (41 : Nat) ({ cls := "NextBench$Sitters", name := "<init>", desc := "(LNextBench$Bench;)V" } : Jvm.MethodName)) ∈ tbG := tb_1 (i := 124) rfl rfl
theorem kw_125 : (Jvm.Cond.instanceMethod ({ cls := "NextBench$Sitters", name := "<init>", desc := "(LNextBench$Bench;)V" } : Jvm.MethodName)) ∈ tbG := tb_1 (i := 125) rfl rfl
theorem kw_126 : (Jvm.Cond.code ({ cls := "NextBench$Sitters", name := "<init>", desc := "(LNextBench$Bench;)V" } : Jvm.MethodName) prog_11_method_1_code (2 : Nat) (Option.none : Option Jvm.ClassFile.FieldType)) ∈ tbG := tb_1 (i := 126) rfl rfl
theorem kw_127 : (Jvm.Cond.methodLink "NextBench$Sitters" (3 : Nat) ({ cls := "java/lang/Object", name := "<init>", desc := "()V" } : Jvm.MethodName)) ∈ tbG := tb_1 (i := 127) rfl rfl
theorem kw_128 : (Jvm.Cond.fieldLink "NextBench$Sitters" (9 : Nat) "NextBench$Sitters" "bench" "LNextBench$Bench;") ∈ tbG := tb_1 (i := 128) rfl rfl
theorem kw_129 : (Jvm.Cond.fieldLink "NextBench$Sitters" (15 : Nat) "NextBench$Sitters" "nearest" "[I") ∈ tbG := tb_1 (i := 129) rfl rfl
theorem kw_130 : (Jvm.Cond.fieldLink "NextBench$Sitters" (19 : Nat) "NextBench$Sitters" "set" "I") ∈ tbG := tb_1 (i := 130) rfl rfl
theorem kw_131 : (Jvm.Cond.fieldLink "NextBench" (167 : Nat) "NextBench$Sitters" "set" "I") ∈ tbG := tb_1 (i := 131) rfl rfl
theorem kw_132 : (Jvm.Cond.fieldLink "NextBench$Sitters" (34 : Nat) "NextBench$Sitters" "bear" "I") ∈ tbG := tb_1 (i := 132) rfl rfl
theorem kw_133 : (Jvm.Cond.fieldLink "NextBench" (231 : Nat) "NextBench$Sitters" "bear" "I") ∈ tbG := tb_1 (i := 133) rfl rfl
theorem kw_134 : (Jvm.Cond.laysFinal "NextBench$Sitters" "NextBench$Sitters" "bench" "LNextBench$Bench;") ∈ tbG := tb_1 (i := 134) rfl rfl
theorem kw_136 : (Jvm.Cond.laysFinal "NextBench$Sitters" "NextBench$Sitters" "nearest" "[I") ∈ tbG := tb_1 (i := 136) rfl rfl
theorem kw_138 : (Jvm.Cond.lays "NextBench$Sitters" "NextBench$Sitters" "set" "I") ∈ tbG := tb_1 (i := 138) rfl rfl
theorem kw_140 : (Jvm.Cond.lays "NextBench$Sitters" "NextBench$Sitters" "bear" "I") ∈ tbG := tb_1 (i := 140) rfl rfl
theorem kw_143 : (Jvm.Cond.classLink "NextBench" (51 : Nat) "NextBench$Sets") ∈ tbG := tb_1 (i := 143) rfl rfl
theorem kw_144 : (Jvm.Cond.instantiable "NextBench$Sets" (5 : Nat)) ∈ tbG := tb_1 (i := 144) rfl rfl
theorem kw_145 : (Jvm.Cond.methodLink "NextBench" (53 : Nat) ({ cls := "NextBench$Sets", name := "<init>", desc := "()V" } : Jvm.MethodName)) ∈ tbG := tb_1 (i := 145) rfl rfl
theorem kw_146 : (Jvm.Cond.instanceMethod ({ cls := "NextBench$Sets", name := "<init>", desc := "()V" } : Jvm.MethodName)) ∈ tbG := tb_1 (i := 146) rfl rfl
theorem kw_147 : (Jvm.Cond.code ({ cls := "NextBench$Sets", name := "<init>", desc := "()V" } : Jvm.MethodName) prog_10_method_1_code (1 : Nat) (Option.none : Option Jvm.ClassFile.FieldType)) ∈ tbG := tb_1 (i := 147) rfl rfl
theorem kw_148 : (Jvm.Cond.methodLink "NextBench$Sets" (3 : Nat) ({ cls := "java/lang/Object", name := "<init>", desc := "()V" } : Jvm.MethodName)) ∈ tbG := tb_1 (i := 148) rfl rfl
theorem kw_149 : (Jvm.Cond.fieldLink "NextBench$Sets" (9 : Nat) "NextBench$Sets" "filled" "[I") ∈ tbG := tb_1 (i := 149) rfl rfl
theorem kw_150 : (Jvm.Cond.fieldLink "NextBench$Match" (50 : Nat) "NextBench$Sets" "filled" "[I") ∈ tbG := tb_1 (i := 150) rfl rfl
theorem kw_151 : (Jvm.Cond.fieldLink "NextBench$Census" (72 : Nat) "NextBench$Sets" "filled" "[I") ∈ tbG := tb_1 (i := 151) rfl rfl
theorem kw_152 : (Jvm.Cond.fieldLink "NextBench$Sets" (15 : Nat) "NextBench$Sets" "open" "[I") ∈ tbG := tb_1 (i := 152) rfl rfl
theorem kw_153 : (Jvm.Cond.fieldLink "NextBench$Match" (53 : Nat) "NextBench$Sets" "open" "[I") ∈ tbG := tb_1 (i := 153) rfl rfl
theorem kw_154 : (Jvm.Cond.fieldLink "NextBench$Census" (69 : Nat) "NextBench$Sets" "open" "[I") ∈ tbG := tb_1 (i := 154) rfl rfl
theorem kw_155 : (Jvm.Cond.fieldLink "NextBench$Sets" (18 : Nat) "NextBench$Sets" "chance" "[I") ∈ tbG := tb_1 (i := 155) rfl rfl
theorem kw_156 : (Jvm.Cond.fieldLink "NextBench$Census" (75 : Nat) "NextBench$Sets" "chance" "[I") ∈ tbG := tb_1 (i := 156) rfl rfl
theorem kw_157 : (Jvm.Cond.fieldLink "NextBench$Sets" (21 : Nat) "NextBench$Sets" "size" "I") ∈ tbG := tb_1 (i := 157) rfl rfl
theorem kw_158 : (Jvm.Cond.fieldLink "NextBench$Match" (47 : Nat) "NextBench$Sets" "size" "I") ∈ tbG := tb_1 (i := 158) rfl rfl
theorem kw_159 : (Jvm.Cond.fieldLink "NextBench$Census" (66 : Nat) "NextBench$Sets" "size" "I") ∈ tbG := tb_1 (i := 159) rfl rfl
theorem kw_160 : (Jvm.Cond.fieldLink "NextBench$Sets" (25 : Nat) "NextBench$Sets" "places" "I") ∈ tbG := tb_1 (i := 160) rfl rfl
theorem kw_161 : (Jvm.Cond.fieldLink "NextBench$Match" (56 : Nat) "NextBench$Sets" "places" "I") ∈ tbG := tb_1 (i := 161) rfl rfl
theorem kw_162 : (Jvm.Cond.laysFinal "NextBench$Sets" "NextBench$Sets" "filled" "[I") ∈ tbG := tb_1 (i := 162) rfl rfl
theorem kw_164 : (Jvm.Cond.laysFinal "NextBench$Sets" "NextBench$Sets" "open" "[I") ∈ tbG := tb_1 (i := 164) rfl rfl
theorem kw_166 : (Jvm.Cond.laysFinal "NextBench$Sets" "NextBench$Sets" "chance" "[I") ∈ tbG := tb_1 (i := 166) rfl rfl
theorem kw_168 : (Jvm.Cond.lays "NextBench$Sets" "NextBench$Sets" "size" "I") ∈ tbG := tb_1 (i := 168) rfl rfl
theorem kw_170 : (Jvm.Cond.lays "NextBench$Sets" "NextBench$Sets" "places" "I") ∈ tbG := tb_1 (i := 170) rfl rfl
theorem kw_173 : (Jvm.Cond.classLink "NextBench" (58 : Nat) "NextBench$Census") ∈ tbG := tb_1 (i := 173) rfl rfl
theorem kw_174 : (Jvm.Cond.instantiable "NextBench$Census" (5 : Nat)) ∈ tbG := tb_1 (i := 174) rfl rfl
theorem kw_175 : (Jvm.Cond.methodLink "NextBench" (60 : Nat) ({ cls := "NextBench$Census", name := "<init>", desc := "()V" } : Jvm.MethodName)) ∈ tbG := tb_1 (i := 175) rfl rfl
theorem kw_176 : (Jvm.Cond.instanceMethod ({ cls := "NextBench$Census", name := "<init>", desc := "()V" } : Jvm.MethodName)) ∈ tbG := tb_1 (i := 176) rfl rfl
theorem kw_177 : (Jvm.Cond.code ({ cls := "NextBench$Census", name := "<init>", desc := "()V" } : Jvm.MethodName) prog_3_method_1_code (1 : Nat) (Option.none : Option Jvm.ClassFile.FieldType)) ∈ tbG := tb_1 (i := 177) rfl rfl
theorem kw_178 : (Jvm.Cond.methodLink "NextBench$Census" (3 : Nat) ({ cls := "java/lang/Object", name := "<init>", desc := "()V" } : Jvm.MethodName)) ∈ tbG := tb_1 (i := 178) rfl rfl
theorem kw_179 : (Jvm.Cond.fieldLink "NextBench$Census" (9 : Nat) "NextBench$Census" "wholeSets" "[I") ∈ tbG := tb_1 (i := 179) rfl rfl
theorem kw_180 : (Jvm.Cond.fieldLink "NextBench" (185 : Nat) "NextBench$Census" "wholeSets" "[I") ∈ tbG := tb_1 (i := 180) rfl rfl
theorem kw_181 : (Jvm.Cond.fieldLink "NextBench$Census" (15 : Nat) "NextBench$Census" "orders" "[J") ∈ tbG := tb_1 (i := 181) rfl rfl
theorem kw_182 : (Jvm.Cond.fieldLink "NextBench" (200 : Nat) "NextBench$Census" "orders" "[J") ∈ tbG := tb_1 (i := 182) rfl rfl
theorem kw_183 : (Jvm.Cond.fieldLink "NextBench$Census" (60 : Nat) "NextBench$Census" "least" "I") ∈ tbG := tb_1 (i := 183) rfl rfl
theorem kw_184 : (Jvm.Cond.fieldLink "NextBench" (174 : Nat) "NextBench$Census" "least" "I") ∈ tbG := tb_1 (i := 184) rfl rfl
theorem kw_185 : (Jvm.Cond.fieldLink "NextBench$Census" (63 : Nat) "NextBench$Census" "most" "I") ∈ tbG := tb_1 (i := 185) rfl rfl
theorem kw_186 : (Jvm.Cond.fieldLink "NextBench" (177 : Nat) "NextBench$Census" "most" "I") ∈ tbG := tb_1 (i := 186) rfl rfl
theorem kw_187 : (Jvm.Cond.fieldLink "NextBench$Census" (19 : Nat) "NextBench$Census" "known" "Z") ∈ tbG := tb_1 (i := 187) rfl rfl
theorem kw_188 : (Jvm.Cond.fieldLink "NextBench" (291 : Nat) "NextBench$Census" "known" "Z") ∈ tbG := tb_1 (i := 188) rfl rfl
theorem kw_189 : (Jvm.Cond.laysFinal "NextBench$Census" "NextBench$Census" "wholeSets" "[I") ∈ tbG := tb_1 (i := 189) rfl rfl
theorem kw_191 : (Jvm.Cond.laysFinal "NextBench$Census" "NextBench$Census" "orders" "[J") ∈ tbG := tb_1 (i := 191) rfl rfl
theorem kw_193 : (Jvm.Cond.lays "NextBench$Census" "NextBench$Census" "least" "I") ∈ tbG := tb_1 (i := 193) rfl rfl
theorem kw_195 : (Jvm.Cond.lays "NextBench$Census" "NextBench$Census" "most" "I") ∈ tbG := tb_1 (i := 195) rfl rfl
theorem kw_197 : (Jvm.Cond.lays "NextBench$Census" "NextBench$Census" "known" "Z") ∈ tbG := tb_1 (i := 197) rfl rfl
theorem kw_200 : (Jvm.Cond.arrayClass Jvm.ClassFile.FieldType.long) ∈ tbG := tb_1 (i := 200) rfl rfl
theorem kw_201 : (Jvm.Cond.classLink "NextBench" (65 : Nat) "NextBench$Match") ∈ tbG := tb_1 (i := 201) rfl rfl
theorem kw_202 : (Jvm.Cond.instantiable "NextBench$Match" (3 : Nat)) ∈ tbG := tb_1 (i := 202) rfl rfl
theorem kw_203 : (Jvm.Cond.methodLink "NextBench" (67 : Nat) ({ cls := "NextBench$Match", name := "<init>", desc := "()V" } : Jvm.MethodName)) ∈ tbG := tb_1 (i := 203) rfl rfl
theorem kw_204 : (Jvm.Cond.instanceMethod ({ cls := "NextBench$Match", name := "<init>", desc := "()V" } : Jvm.MethodName)) ∈ tbG := tb_1 (i := 204) rfl rfl
theorem kw_205 : (Jvm.Cond.code ({ cls := "NextBench$Match", name := "<init>", desc := "()V" } : Jvm.MethodName) prog_6_method_1_code (1 : Nat) (Option.none : Option Jvm.ClassFile.FieldType)) ∈ tbG := tb_1 (i := 205) rfl rfl
theorem kw_206 : (Jvm.Cond.methodLink "NextBench$Match" (3 : Nat) ({ cls := "java/lang/Object", name := "<init>", desc := "()V" } : Jvm.MethodName)) ∈ tbG := tb_1 (i := 206) rfl rfl
theorem kw_207 : (Jvm.Cond.fieldLink "NextBench$Match" (9 : Nat) "NextBench$Match" "kind" "[I") ∈ tbG := tb_1 (i := 207) rfl rfl
theorem kw_208 : (Jvm.Cond.fieldLink "NextBench$Match" (15 : Nat) "NextBench$Match" "wicked" "[I") ∈ tbG := tb_1 (i := 208) rfl rfl
theorem kw_209 : (Jvm.Cond.fieldLink "NextBench$Match" (18 : Nat) "NextBench$Match" "known" "Z") ∈ tbG := tb_1 (i := 209) rfl rfl
theorem kw_210 : (Jvm.Cond.fieldLink "NextBench" (295 : Nat) "NextBench$Match" "known" "Z") ∈ tbG := tb_1 (i := 210) rfl rfl
theorem kw_211 : (Jvm.Cond.laysFinal "NextBench$Match" "NextBench$Match" "kind" "[I") ∈ tbG := tb_1 (i := 211) rfl rfl
theorem kw_213 : (Jvm.Cond.laysFinal "NextBench$Match" "NextBench$Match" "wicked" "[I") ∈ tbG := tb_1 (i := 213) rfl rfl
theorem kw_215 : (Jvm.Cond.lays "NextBench$Match" "NextBench$Match" "known" "Z") ∈ tbG := tb_1 (i := 215) rfl rfl
theorem kw_218 : (Jvm.Cond.classLink "NextBench" (72 : Nat) "NextBench$Couples") ∈ tbG := tb_1 (i := 218) rfl rfl
theorem kw_219 : (Jvm.Cond.instantiable "NextBench$Couples" (5 : Nat)) ∈ tbG := tb_1 (i := 219) rfl rfl
theorem kw_220 : (Jvm.Cond.methodLink "NextBench" (74 : Nat) ({ cls := "NextBench$Couples", name := "<init>", desc := "()V" } : Jvm.MethodName)) ∈ tbG := tb_1 (i := 220) rfl rfl
theorem kw_221 : (Jvm.Cond.instanceMethod ({ cls := "NextBench$Couples", name := "<init>", desc := "()V" } : Jvm.MethodName)) ∈ tbG := tb_1 (i := 221) rfl rfl
theorem kw_222 : (Jvm.Cond.code ({ cls := "NextBench$Couples", name := "<init>", desc := "()V" } : Jvm.MethodName) prog_4_method_1_code (1 : Nat) (Option.none : Option Jvm.ClassFile.FieldType)) ∈ tbG := tb_1 (i := 222) rfl rfl
theorem kw_223 : (Jvm.Cond.methodLink "NextBench$Couples" (3 : Nat) ({ cls := "java/lang/Object", name := "<init>", desc := "()V" } : Jvm.MethodName)) ∈ tbG := tb_1 (i := 223) rfl rfl
theorem kw_224 : (Jvm.Cond.fieldLink "NextBench$Couples" (9 : Nat) "NextBench$Couples" "lesser" "[I") ∈ tbG := tb_1 (i := 224) rfl rfl
theorem kw_225 : (Jvm.Cond.fieldLink "NextBench$Couples" (15 : Nat) "NextBench$Couples" "greater" "[I") ∈ tbG := tb_1 (i := 225) rfl rfl
theorem kw_226 : (Jvm.Cond.fieldLink "NextBench$Couples" (18 : Nat) "NextBench$Couples" "tooNear" "[I") ∈ tbG := tb_1 (i := 226) rfl rfl
theorem kw_227 : (Jvm.Cond.fieldLink "NextBench$Couples" (21 : Nat) "NextBench$Couples" "clash" "[I") ∈ tbG := tb_1 (i := 227) rfl rfl
theorem kw_228 : (Jvm.Cond.fieldLink "NextBench$Couples" (24 : Nat) "NextBench$Couples" "count" "I") ∈ tbG := tb_1 (i := 228) rfl rfl
theorem kw_229 : (Jvm.Cond.laysFinal "NextBench$Couples" "NextBench$Couples" "lesser" "[I") ∈ tbG := tb_1 (i := 229) rfl rfl
theorem kw_231 : (Jvm.Cond.laysFinal "NextBench$Couples" "NextBench$Couples" "greater" "[I") ∈ tbG := tb_1 (i := 231) rfl rfl
theorem kw_233 : (Jvm.Cond.laysFinal "NextBench$Couples" "NextBench$Couples" "tooNear" "[I") ∈ tbG := tb_1 (i := 233) rfl rfl
theorem kw_235 : (Jvm.Cond.laysFinal "NextBench$Couples" "NextBench$Couples" "clash" "[I") ∈ tbG := tb_1 (i := 235) rfl rfl
theorem kw_237 : (Jvm.Cond.lays "NextBench$Couples" "NextBench$Couples" "count" "I") ∈ tbG := tb_1 (i := 237) rfl rfl
theorem kw_240 : (Jvm.Cond.classLink "NextBench" (79 : Nat) "NextBench$Passing") ∈ tbG := tb_2 (i := 0) rfl rfl
theorem kw_241 : (Jvm.Cond.instantiable "NextBench$Passing" (5 : Nat)) ∈ tbG := tb_2 (i := 1) rfl rfl
theorem kw_242 : (Jvm.Cond.methodLink "NextBench" (81 : Nat) ({ cls := "NextBench$Passing", name := "<init>", desc := "(LNextBench$Sitters;)V" } : Jvm.MethodName)) ∈ tbG := tb_2 (i := 2) rfl rfl
theorem kw_243 : (Jvm.Cond.instanceMethod ({ cls := "NextBench$Passing", name := "<init>", desc := "(LNextBench$Sitters;)V" } : Jvm.MethodName)) ∈ tbG := tb_2 (i := 3) rfl rfl
theorem kw_244 : (Jvm.Cond.code ({ cls := "NextBench$Passing", name := "<init>", desc := "(LNextBench$Sitters;)V" } : Jvm.MethodName) prog_8_method_1_code (2 : Nat) (Option.none : Option Jvm.ClassFile.FieldType)) ∈ tbG := tb_2 (i := 4) rfl rfl
theorem kw_245 : (Jvm.Cond.methodLink "NextBench$Passing" (3 : Nat) ({ cls := "java/lang/Object", name := "<init>", desc := "()V" } : Jvm.MethodName)) ∈ tbG := tb_2 (i := 5) rfl rfl
theorem kw_246 : (Jvm.Cond.fieldLink "NextBench$Passing" (9 : Nat) "NextBench$Passing" "sitters" "LNextBench$Sitters;") ∈ tbG := tb_2 (i := 6) rfl rfl
theorem kw_247 : (Jvm.Cond.fieldLink "NextBench$Passing" (15 : Nat) "NextBench$Passing" "odds" "[J") ∈ tbG := tb_2 (i := 7) rfl rfl
theorem kw_248 : (Jvm.Cond.fieldLink "NextBench" (250 : Nat) "NextBench$Passing" "odds" "[J") ∈ tbG := tb_2 (i := 8) rfl rfl
theorem kw_249 : (Jvm.Cond.fieldLink "NextBench$Passing" (25 : Nat) "NextBench$Passing" "turnedAway" "J") ∈ tbG := tb_2 (i := 9) rfl rfl
theorem kw_250 : (Jvm.Cond.fieldLink "NextBench" (257 : Nat) "NextBench$Passing" "turnedAway" "J") ∈ tbG := tb_2 (i := 10) rfl rfl
theorem kw_251 : (Jvm.Cond.fieldLink "NextBench$Passing" (33 : Nat) "NextBench$Passing" "parts" "J") ∈ tbG := tb_2 (i := 11) rfl rfl
theorem kw_252 : (Jvm.Cond.fieldLink "NextBench" (253 : Nat) "NextBench$Passing" "parts" "J") ∈ tbG := tb_2 (i := 12) rfl rfl
theorem kw_253 : (Jvm.Cond.fieldLink "NextBench$Passing" (29 : Nat) "NextBench$Passing" "habit" "I") ∈ tbG := tb_2 (i := 13) rfl rfl
theorem kw_254 : (Jvm.Cond.laysFinal "NextBench$Passing" "NextBench$Passing" "sitters" "LNextBench$Sitters;") ∈ tbG := tb_2 (i := 14) rfl rfl
theorem kw_256 : (Jvm.Cond.laysFinal "NextBench$Passing" "NextBench$Passing" "odds" "[J") ∈ tbG := tb_2 (i := 16) rfl rfl
theorem kw_258 : (Jvm.Cond.lays "NextBench$Passing" "NextBench$Passing" "turnedAway" "J") ∈ tbG := tb_2 (i := 18) rfl rfl
theorem kw_260 : (Jvm.Cond.lays "NextBench$Passing" "NextBench$Passing" "parts" "J") ∈ tbG := tb_2 (i := 20) rfl rfl
theorem kw_262 : (Jvm.Cond.lays "NextBench$Passing" "NextBench$Passing" "habit" "I") ∈ tbG := tb_2 (i := 22) rfl rfl
theorem kw_265 : (Jvm.Cond.classLink "NextBench" (88 : Nat) "NextBench$LongRows") ∈ tbG := tb_2 (i := 25) rfl rfl
theorem kw_266 : (Jvm.Cond.instantiable "NextBench$LongRows" (1 : Nat)) ∈ tbG := tb_2 (i := 26) rfl rfl
theorem kw_267 : (Jvm.Cond.methodLink "NextBench" (90 : Nat) ({ cls := "NextBench$LongRows", name := "<init>", desc := "()V" } : Jvm.MethodName)) ∈ tbG := tb_2 (i := 27) rfl rfl
theorem kw_268 : (Jvm.Cond.instanceMethod ({ cls := "NextBench$LongRows", name := "<init>", desc := "()V" } : Jvm.MethodName)) ∈ tbG := tb_2 (i := 28) rfl rfl
theorem kw_269 : (Jvm.Cond.code ({ cls := "NextBench$LongRows", name := "<init>", desc := "()V" } : Jvm.MethodName) prog_5_method_1_code (3 : Nat) (Option.none : Option Jvm.ClassFile.FieldType)) ∈ tbG := tb_2 (i := 29) rfl rfl
theorem kw_270 : (Jvm.Cond.methodLink "NextBench$LongRows" (3 : Nat) ({ cls := "java/lang/Object", name := "<init>", desc := "()V" } : Jvm.MethodName)) ∈ tbG := tb_2 (i := 30) rfl rfl
theorem kw_271 : (Jvm.Cond.fieldLink "NextBench$LongRows" (9 : Nat) "NextBench$LongRows" "between" "[I") ∈ tbG := tb_2 (i := 31) rfl rfl
theorem kw_272 : (Jvm.Cond.laysFinal "NextBench$LongRows" "NextBench$LongRows" "between" "[I") ∈ tbG := tb_2 (i := 32) rfl rfl
theorem kw_275 : (Jvm.Cond.methodLink "NextBench" (95 : Nat) ({ cls := "NextBench$Bench", name := "measure", desc := "(I)V" } : Jvm.MethodName)) ∈ tbG := tb_2 (i := 35) rfl rfl
theorem kw_276 : (Jvm.Cond.instanceMethod ({ cls := "NextBench$Bench", name := "measure", desc := "(I)V" } : Jvm.MethodName)) ∈ tbG := tb_2 (i := 36) rfl rfl
theorem kw_277 : (Jvm.Cond.selects "NextBench$Bench" ({ cls := "NextBench$Bench", name := "measure", desc := "(I)V" } : Jvm.MethodName) ({ cls := "NextBench$Bench", name := "measure", desc := "(I)V" } : Jvm.MethodName)) ∈ tbG := tb_2 (i := 37) rfl rfl
theorem kw_278 : (Jvm.Cond.code ({ cls := "NextBench$Bench", name := "measure", desc := "(I)V" } : Jvm.MethodName) prog_2_method_3_code (4 : Nat) (Option.none : Option Jvm.ClassFile.FieldType)) ∈ tbG := tb_2 (i := 38) rfl rfl
theorem kw_279 : (Jvm.Cond.methodLink "NextBench$Bench" (31 : Nat) ({ cls := "NextBench$Bench", name := "walkOn", desc := "(II)V" } : Jvm.MethodName)) ∈ tbG := tb_2 (i := 39) rfl rfl
theorem kw_281 : (Jvm.Cond.instanceMethod ({ cls := "NextBench$Bench", name := "walkOn", desc := "(II)V" } : Jvm.MethodName)) ∈ tbG := tb_2 (i := 41) rfl rfl
theorem kw_282 : (Jvm.Cond.code ({ cls := "NextBench$Bench", name := "walkOn", desc := "(II)V" } : Jvm.MethodName) prog_2_method_4_code (8 : Nat) (Option.none : Option Jvm.ClassFile.FieldType)) ∈ tbG := tb_2 (i := 42) rfl rfl
theorem kw_283 : (Jvm.Cond.methodLink "NextBench$Bench" (35 : Nat) ({ cls := "NextBench$Bench", name := "lookRound", desc := "(I)V" } : Jvm.MethodName)) ∈ tbG := tb_2 (i := 43) rfl rfl
theorem kw_285 : (Jvm.Cond.instanceMethod ({ cls := "NextBench$Bench", name := "lookRound", desc := "(I)V" } : Jvm.MethodName)) ∈ tbG := tb_2 (i := 45) rfl rfl
theorem kw_286 : (Jvm.Cond.code ({ cls := "NextBench$Bench", name := "lookRound", desc := "(I)V" } : Jvm.MethodName) prog_2_method_5_code (6 : Nat) (Option.none : Option Jvm.ClassFile.FieldType)) ∈ tbG := tb_2 (i := 46) rfl rfl
theorem kw_287 : (Jvm.Cond.fieldLink "NextBench" (12 : Nat) "NextBench" "pad" "LNextBench$Pad;") ∈ tbG := tb_2 (i := 47) rfl rfl
theorem kw_288 : (Jvm.Cond.fieldLink "NextBench" (19 : Nat) "NextBench" "scene" "LNextBench$Scene;") ∈ tbG := tb_2 (i := 48) rfl rfl
theorem kw_289 : (Jvm.Cond.fieldLink "NextBench" (23 : Nat) "NextBench" "images" "[LNextBench$Scene;") ∈ tbG := tb_2 (i := 49) rfl rfl
theorem kw_290 : (Jvm.Cond.fieldLink "NextBench" (32 : Nat) "NextBench" "bench" "LNextBench$Bench;") ∈ tbG := tb_2 (i := 50) rfl rfl
theorem kw_291 : (Jvm.Cond.fieldLink "NextBench" (36 : Nat) "NextBench" "trial" "LNextBench$Bench;") ∈ tbG := tb_2 (i := 51) rfl rfl
theorem kw_292 : (Jvm.Cond.fieldLink "NextBench" (44 : Nat) "NextBench" "sitters" "LNextBench$Sitters;") ∈ tbG := tb_2 (i := 52) rfl rfl
theorem kw_293 : (Jvm.Cond.fieldLink "NextBench" (48 : Nat) "NextBench" "trialSitters" "LNextBench$Sitters;") ∈ tbG := tb_2 (i := 53) rfl rfl
theorem kw_294 : (Jvm.Cond.fieldLink "NextBench" (54 : Nat) "NextBench" "sets" "LNextBench$Sets;") ∈ tbG := tb_2 (i := 54) rfl rfl
theorem kw_295 : (Jvm.Cond.fieldLink "NextBench" (61 : Nat) "NextBench" "census" "LNextBench$Census;") ∈ tbG := tb_2 (i := 55) rfl rfl
theorem kw_296 : (Jvm.Cond.fieldLink "NextBench" (68 : Nat) "NextBench" "match" "LNextBench$Match;") ∈ tbG := tb_2 (i := 56) rfl rfl
theorem kw_297 : (Jvm.Cond.fieldLink "NextBench" (75 : Nat) "NextBench" "couples" "LNextBench$Couples;") ∈ tbG := tb_2 (i := 57) rfl rfl
theorem kw_298 : (Jvm.Cond.fieldLink "NextBench" (84 : Nat) "NextBench" "passing" "LNextBench$Passing;") ∈ tbG := tb_2 (i := 58) rfl rfl
theorem kw_299 : (Jvm.Cond.fieldLink "NextBench" (91 : Nat) "NextBench" "longRows" "LNextBench$LongRows;") ∈ tbG := tb_2 (i := 59) rfl rfl
theorem kw_300 : (Jvm.Cond.laysFinal "NextBench" "NextBench" "pad" "LNextBench$Pad;") ∈ tbG := tb_2 (i := 60) rfl rfl
theorem kw_302 : (Jvm.Cond.laysFinal "NextBench" "NextBench" "scene" "LNextBench$Scene;") ∈ tbG := tb_2 (i := 62) rfl rfl
theorem kw_304 : (Jvm.Cond.laysFinal "NextBench" "NextBench" "images" "[LNextBench$Scene;") ∈ tbG := tb_2 (i := 64) rfl rfl
theorem kw_306 : (Jvm.Cond.laysFinal "NextBench" "NextBench" "bench" "LNextBench$Bench;") ∈ tbG := tb_2 (i := 66) rfl rfl
theorem kw_308 : (Jvm.Cond.laysFinal "NextBench" "NextBench" "trial" "LNextBench$Bench;") ∈ tbG := tb_2 (i := 68) rfl rfl
theorem kw_310 : (Jvm.Cond.laysFinal "NextBench" "NextBench" "sitters" "LNextBench$Sitters;") ∈ tbG := tb_2 (i := 70) rfl rfl
theorem kw_312 : (Jvm.Cond.laysFinal "NextBench" "NextBench" "trialSitters" "LNextBench$Sitters;") ∈ tbG := tb_2 (i := 72) rfl rfl
theorem kw_314 : (Jvm.Cond.laysFinal "NextBench" "NextBench" "sets" "LNextBench$Sets;") ∈ tbG := tb_2 (i := 74) rfl rfl
theorem kw_316 : (Jvm.Cond.laysFinal "NextBench" "NextBench" "census" "LNextBench$Census;") ∈ tbG := tb_2 (i := 76) rfl rfl
theorem kw_318 : (Jvm.Cond.laysFinal "NextBench" "NextBench" "match" "LNextBench$Match;") ∈ tbG := tb_2 (i := 78) rfl rfl
theorem kw_320 : (Jvm.Cond.laysFinal "NextBench" "NextBench" "couples" "LNextBench$Couples;") ∈ tbG := tb_2 (i := 80) rfl rfl
theorem kw_322 : (Jvm.Cond.laysFinal "NextBench" "NextBench" "passing" "LNextBench$Passing;") ∈ tbG := tb_2 (i := 82) rfl rfl
theorem kw_324 : (Jvm.Cond.laysFinal "NextBench" "NextBench" "longRows" "LNextBench$LongRows;") ∈ tbG := tb_2 (i := 84) rfl rfl
theorem kw_327 : (Jvm.Cond.methodLink "NextBenchLaw" (13 : Nat) ({ cls := "NextBench", name := "say", desc := "(I)I" } : Jvm.MethodName)) ∈ tbG := tb_2 (i := 87) rfl rfl
theorem kw_328 : (Jvm.Cond.instanceMethod ({ cls := "NextBench", name := "say", desc := "(I)I" } : Jvm.MethodName)) ∈ tbG := tb_2 (i := 88) rfl rfl
theorem kw_329 : (Jvm.Cond.selects "NextBench" ({ cls := "NextBench", name := "say", desc := "(I)I" } : Jvm.MethodName) ({ cls := "NextBench", name := "say", desc := "(I)I" } : Jvm.MethodName)) ∈ tbG := tb_2 (i := 89) rfl rfl
theorem kw_330 : (Jvm.Cond.code ({ cls := "NextBench", name := "say", desc := "(I)I" } : Jvm.MethodName) prog_1_method_2_code (2 : Nat) (Option.some Jvm.ClassFile.FieldType.int)) ∈ tbG := tb_2 (i := 90) rfl rfl
theorem kw_331 : (Jvm.Cond.methodLink "NextBench" (99 : Nat) ({ cls := "NextBench", name := "isWithin", desc := "(III)Z" } : Jvm.MethodName)) ∈ tbG := tb_2 (i := 91) rfl rfl
theorem kw_332 : (Jvm.Cond.static ({ cls := "NextBench", name := "isWithin", desc := "(III)Z" } : Jvm.MethodName)) ∈ tbG := tb_2 (i := 92) rfl rfl
theorem kw_333 : (Jvm.Cond.code ({ cls := "NextBench", name := "isWithin", desc := "(III)Z" } : Jvm.MethodName) prog_1_method_36_code (3 : Nat) (Option.some Jvm.ClassFile.FieldType.boolean)) ∈ tbG := tb_2 (i := 93) rfl rfl
theorem kw_334 : (Jvm.Cond.methodLink "NextBench" (103 : Nat) ({ cls := "NextBench$Pad", name := "add", desc := "(I)Z" } : Jvm.MethodName)) ∈ tbG := tb_2 (i := 94) rfl rfl
theorem kw_335 : (Jvm.Cond.instanceMethod ({ cls := "NextBench$Pad", name := "add", desc := "(I)Z" } : Jvm.MethodName)) ∈ tbG := tb_2 (i := 95) rfl rfl
theorem kw_336 : (Jvm.Cond.selects "NextBench$Pad" ({ cls := "NextBench$Pad", name := "add", desc := "(I)Z" } : Jvm.MethodName) ({ cls := "NextBench$Pad", name := "add", desc := "(I)Z" } : Jvm.MethodName)) ∈ tbG := tb_2 (i := 96) rfl rfl
theorem kw_337 : (Jvm.Cond.code ({ cls := "NextBench$Pad", name := "add", desc := "(I)Z" } : Jvm.MethodName) prog_7_method_2_code (2 : Nat) (Option.some Jvm.ClassFile.FieldType.boolean)) ∈ tbG := tb_2 (i := 97) rfl rfl
theorem kw_338 : (Jvm.Cond.methodLink "NextBenchLaw" (18 : Nat) ({ cls := "NextBench", name := "wipe", desc := "()I" } : Jvm.MethodName)) ∈ tbG := tb_2 (i := 98) rfl rfl
theorem kw_339 : (Jvm.Cond.instanceMethod ({ cls := "NextBench", name := "wipe", desc := "()I" } : Jvm.MethodName)) ∈ tbG := tb_2 (i := 99) rfl rfl
theorem kw_340 : (Jvm.Cond.selects "NextBench" ({ cls := "NextBench", name := "wipe", desc := "()I" } : Jvm.MethodName) ({ cls := "NextBench", name := "wipe", desc := "()I" } : Jvm.MethodName)) ∈ tbG := tb_2 (i := 100) rfl rfl
theorem kw_341 : (Jvm.Cond.code ({ cls := "NextBench", name := "wipe", desc := "()I" } : Jvm.MethodName) prog_1_method_3_code (2 : Nat) (Option.some Jvm.ClassFile.FieldType.int)) ∈ tbG := tb_2 (i := 101) rfl rfl
theorem kw_342 : (Jvm.Cond.methodLink "NextBenchLaw" (23 : Nat) ({ cls := "NextBench", name := "fault", desc := "()I" } : Jvm.MethodName)) ∈ tbG := tb_2 (i := 102) rfl rfl
theorem kw_343 : (Jvm.Cond.instanceMethod ({ cls := "NextBench", name := "fault", desc := "()I" } : Jvm.MethodName)) ∈ tbG := tb_2 (i := 103) rfl rfl
theorem kw_344 : (Jvm.Cond.selects "NextBench" ({ cls := "NextBench", name := "fault", desc := "()I" } : Jvm.MethodName) ({ cls := "NextBench", name := "fault", desc := "()I" } : Jvm.MethodName)) ∈ tbG := tb_2 (i := 104) rfl rfl
theorem kw_345 : (Jvm.Cond.code ({ cls := "NextBench", name := "fault", desc := "()I" } : Jvm.MethodName) prog_1_method_4_code (1 : Nat) (Option.some Jvm.ClassFile.FieldType.int)) ∈ tbG := tb_2 (i := 105) rfl rfl
theorem kw_346 : (Jvm.Cond.methodLink "NextBench" (111 : Nat) ({ cls := "NextBench$Pad", name := "firstFault", desc := "()I" } : Jvm.MethodName)) ∈ tbG := tb_2 (i := 106) rfl rfl
theorem kw_347 : (Jvm.Cond.instanceMethod ({ cls := "NextBench$Pad", name := "firstFault", desc := "()I" } : Jvm.MethodName)) ∈ tbG := tb_2 (i := 107) rfl rfl
theorem kw_348 : (Jvm.Cond.selects "NextBench$Pad" ({ cls := "NextBench$Pad", name := "firstFault", desc := "()I" } : Jvm.MethodName) ({ cls := "NextBench$Pad", name := "firstFault", desc := "()I" } : Jvm.MethodName)) ∈ tbG := tb_2 (i := 108) rfl rfl
theorem kw_349 : (Jvm.Cond.code ({ cls := "NextBench$Pad", name := "firstFault", desc := "()I" } : Jvm.MethodName) prog_7_method_3_code (5 : Nat) (Option.some Jvm.ClassFile.FieldType.int)) ∈ tbG := tb_2 (i := 109) rfl rfl
theorem kw_350 : (Jvm.Cond.methodLink "NextBench$Pad" (19 : Nat) ({ cls := "NextBench$Pad", name := "canStand", desc := "(II)Z" } : Jvm.MethodName)) ∈ tbG := tb_2 (i := 110) rfl rfl
theorem kw_351 : (Jvm.Cond.static ({ cls := "NextBench$Pad", name := "canStand", desc := "(II)Z" } : Jvm.MethodName)) ∈ tbG := tb_2 (i := 111) rfl rfl
theorem kw_352 : (Jvm.Cond.code ({ cls := "NextBench$Pad", name := "canStand", desc := "(II)Z" } : Jvm.MethodName) prog_7_method_4_code (2 : Nat) (Option.some Jvm.ClassFile.FieldType.boolean)) ∈ tbG := tb_2 (i := 112) rfl rfl
theorem kw_353 : (Jvm.Cond.methodLink "NextBenchLaw" (27 : Nat) ({ cls := "NextBench", name := "room", desc := "()I" } : Jvm.MethodName)) ∈ tbG := tb_2 (i := 113) rfl rfl
theorem kw_354 : (Jvm.Cond.instanceMethod ({ cls := "NextBench", name := "room", desc := "()I" } : Jvm.MethodName)) ∈ tbG := tb_2 (i := 114) rfl rfl
theorem kw_355 : (Jvm.Cond.selects "NextBench" ({ cls := "NextBench", name := "room", desc := "()I" } : Jvm.MethodName) ({ cls := "NextBench", name := "room", desc := "()I" } : Jvm.MethodName)) ∈ tbG := tb_2 (i := 115) rfl rfl
theorem kw_356 : (Jvm.Cond.code ({ cls := "NextBench", name := "room", desc := "()I" } : Jvm.MethodName) prog_1_method_5_code (1 : Nat) (Option.some Jvm.ClassFile.FieldType.int)) ∈ tbG := tb_2 (i := 116) rfl rfl
theorem kw_357 : (Jvm.Cond.methodLink "NextBench" (119 : Nat) ({ cls := "NextBench$Pad", name := "writeSteps", desc := "([I)I" } : Jvm.MethodName)) ∈ tbG := tb_2 (i := 117) rfl rfl
theorem kw_358 : (Jvm.Cond.instanceMethod ({ cls := "NextBench$Pad", name := "writeSteps", desc := "([I)I" } : Jvm.MethodName)) ∈ tbG := tb_2 (i := 118) rfl rfl
theorem kw_359 : (Jvm.Cond.selects "NextBench$Pad" ({ cls := "NextBench$Pad", name := "writeSteps", desc := "([I)I" } : Jvm.MethodName) ({ cls := "NextBench$Pad", name := "writeSteps", desc := "([I)I" } : Jvm.MethodName)) ∈ tbG := tb_2 (i := 119) rfl rfl
theorem kw_360 : (Jvm.Cond.code ({ cls := "NextBench$Pad", name := "writeSteps", desc := "([I)I" } : Jvm.MethodName) prog_7_method_5_code (8 : Nat) (Option.some Jvm.ClassFile.FieldType.int)) ∈ tbG := tb_2 (i := 120) rfl rfl
theorem kw_361 : (Jvm.Cond.methodLink "NextBench" (129 : Nat) ({ cls := "java/util/Arrays", name := "fill", desc := "([II)V" } : Jvm.MethodName)) ∈ tbG := tb_2 (i := 121) rfl rfl
theorem kw_362 : (Jvm.Cond.static ({ cls := "java/util/Arrays", name := "fill", desc := "([II)V" } : Jvm.MethodName)) ∈ tbG := tb_2 (i := 122) rfl rfl
theorem kw_363 : (Jvm.Cond.code ({ cls := "java/util/Arrays", name := "fill", desc := "([II)V" } : Jvm.MethodName) prog_17_method_103_code (4 : Nat) (Option.none : Option Jvm.ClassFile.FieldType)) ∈ tbG := tb_2 (i := 123) rfl rfl
theorem kw_364 : (Jvm.Cond.methodLink "NextBench" (138 : Nat) ({ cls := "NextBench", name := "renew", desc := "()V" } : Jvm.MethodName)) ∈ tbG := tb_2 (i := 124) rfl rfl
theorem kw_366 : (Jvm.Cond.instanceMethod ({ cls := "NextBench", name := "renew", desc := "()V" } : Jvm.MethodName)) ∈ tbG := tb_2 (i := 126) rfl rfl
theorem kw_367 : (Jvm.Cond.code ({ cls := "NextBench", name := "renew", desc := "()V" } : Jvm.MethodName) prog_1_method_39_code (1 : Nat) (Option.none : Option Jvm.ClassFile.FieldType)) ∈ tbG := tb_2 (i := 127) rfl rfl
theorem kw_368 : (Jvm.Cond.methodLink "NextBenchLaw" (31 : Nat) ({ cls := "NextBench", name := "worth", desc := "(II)I" } : Jvm.MethodName)) ∈ tbG := tb_2 (i := 128) rfl rfl
theorem kw_369 : (Jvm.Cond.instanceMethod ({ cls := "NextBench", name := "worth", desc := "(II)I" } : Jvm.MethodName)) ∈ tbG := tb_2 (i := 129) rfl rfl
theorem kw_370 : (Jvm.Cond.selects "NextBench" ({ cls := "NextBench", name := "worth", desc := "(II)I" } : Jvm.MethodName) ({ cls := "NextBench", name := "worth", desc := "(II)I" } : Jvm.MethodName)) ∈ tbG := tb_2 (i := 130) rfl rfl
theorem kw_371 : (Jvm.Cond.code ({ cls := "NextBench", name := "worth", desc := "(II)I" } : Jvm.MethodName) prog_1_method_6_code (4 : Nat) (Option.some Jvm.ClassFile.FieldType.int)) ∈ tbG := tb_2 (i := 131) rfl rfl
theorem kw_372 : (Jvm.Cond.methodLink "NextBench" (141 : Nat) ({ cls := "NextBench", name := "isSeat", desc := "(I)Z" } : Jvm.MethodName)) ∈ tbG := tb_2 (i := 132) rfl rfl
theorem kw_374 : (Jvm.Cond.instanceMethod ({ cls := "NextBench", name := "isSeat", desc := "(I)Z" } : Jvm.MethodName)) ∈ tbG := tb_2 (i := 134) rfl rfl
theorem kw_375 : (Jvm.Cond.code ({ cls := "NextBench", name := "isSeat", desc := "(I)Z" } : Jvm.MethodName) prog_1_method_38_code (2 : Nat) (Option.some Jvm.ClassFile.FieldType.boolean)) ∈ tbG := tb_2 (i := 135) rfl rfl
theorem kw_376 : (Jvm.Cond.methodLink "NextBenchLaw" (36 : Nat) ({ cls := "NextBench", name := "bear", desc := "(I)I" } : Jvm.MethodName)) ∈ tbG := tb_2 (i := 136) rfl rfl
theorem kw_377 : (Jvm.Cond.instanceMethod ({ cls := "NextBench", name := "bear", desc := "(I)I" } : Jvm.MethodName)) ∈ tbG := tb_2 (i := 137) rfl rfl
theorem kw_378 : (Jvm.Cond.selects "NextBench" ({ cls := "NextBench", name := "bear", desc := "(I)I" } : Jvm.MethodName) ({ cls := "NextBench", name := "bear", desc := "(I)I" } : Jvm.MethodName)) ∈ tbG := tb_2 (i := 138) rfl rfl
theorem kw_379 : (Jvm.Cond.code ({ cls := "NextBench", name := "bear", desc := "(I)I" } : Jvm.MethodName) prog_1_method_7_code (3 : Nat) (Option.some Jvm.ClassFile.FieldType.int)) ∈ tbG := tb_2 (i := 139) rfl rfl
theorem kw_380 : (Jvm.Cond.methodLink "NextBenchLaw" (40 : Nat) ({ cls := "NextBench", name := "far", desc := "(II)I" } : Jvm.MethodName)) ∈ tbG := tb_2 (i := 140) rfl rfl
theorem kw_381 : (Jvm.Cond.instanceMethod ({ cls := "NextBench", name := "far", desc := "(II)I" } : Jvm.MethodName)) ∈ tbG := tb_2 (i := 141) rfl rfl
theorem kw_382 : (Jvm.Cond.selects "NextBench" ({ cls := "NextBench", name := "far", desc := "(II)I" } : Jvm.MethodName) ({ cls := "NextBench", name := "far", desc := "(II)I" } : Jvm.MethodName)) ∈ tbG := tb_2 (i := 142) rfl rfl
theorem kw_383 : (Jvm.Cond.code ({ cls := "NextBench", name := "far", desc := "(II)I" } : Jvm.MethodName) prog_1_method_8_code (3 : Nat) (Option.some Jvm.ClassFile.FieldType.int)) ∈ tbG := tb_2 (i := 143) rfl rfl
theorem kw_384 : (Jvm.Cond.methodLink "NextBench" (147 : Nat) ({ cls := "NextBench$Bench", name := "farness", desc := "(II)I" } : Jvm.MethodName)) ∈ tbG := tb_2 (i := 144) rfl rfl
theorem kw_385 : (Jvm.Cond.instanceMethod ({ cls := "NextBench$Bench", name := "farness", desc := "(II)I" } : Jvm.MethodName)) ∈ tbG := tb_2 (i := 145) rfl rfl
theorem kw_386 : (Jvm.Cond.selects "NextBench$Bench" ({ cls := "NextBench$Bench", name := "farness", desc := "(II)I" } : Jvm.MethodName) ({ cls := "NextBench$Bench", name := "farness", desc := "(II)I" } : Jvm.MethodName)) ∈ tbG := tb_2 (i := 146) rfl rfl
theorem kw_387 : (Jvm.Cond.code ({ cls := "NextBench$Bench", name := "farness", desc := "(II)I" } : Jvm.MethodName) prog_2_method_2_code (3 : Nat) (Option.some Jvm.ClassFile.FieldType.int)) ∈ tbG := tb_2 (i := 147) rfl rfl
theorem kw_388 : (Jvm.Cond.methodLink "NextBenchLaw" (44 : Nat) ({ cls := "NextBench", name := "may", desc := "(I)I" } : Jvm.MethodName)) ∈ tbG := tb_2 (i := 148) rfl rfl
theorem kw_389 : (Jvm.Cond.instanceMethod ({ cls := "NextBench", name := "may", desc := "(I)I" } : Jvm.MethodName)) ∈ tbG := tb_2 (i := 149) rfl rfl
theorem kw_390 : (Jvm.Cond.selects "NextBench" ({ cls := "NextBench", name := "may", desc := "(I)I" } : Jvm.MethodName) ({ cls := "NextBench", name := "may", desc := "(I)I" } : Jvm.MethodName)) ∈ tbG := tb_2 (i := 150) rfl rfl
theorem kw_391 : (Jvm.Cond.code ({ cls := "NextBench", name := "may", desc := "(I)I" } : Jvm.MethodName) prog_1_method_9_code (3 : Nat) (Option.some Jvm.ClassFile.FieldType.int)) ∈ tbG := tb_2 (i := 151) rfl rfl
theorem kw_392 : (Jvm.Cond.methodLink "NextBench" (151 : Nat) ({ cls := "NextBench", name := "seatAll", desc := "(I)I" } : Jvm.MethodName)) ∈ tbG := tb_2 (i := 152) rfl rfl
theorem kw_394 : (Jvm.Cond.instanceMethod ({ cls := "NextBench", name := "seatAll", desc := "(I)I" } : Jvm.MethodName)) ∈ tbG := tb_2 (i := 154) rfl rfl
theorem kw_395 : (Jvm.Cond.code ({ cls := "NextBench", name := "seatAll", desc := "(I)I" } : Jvm.MethodName) prog_1_method_40_code (2 : Nat) (Option.some Jvm.ClassFile.FieldType.int)) ∈ tbG := tb_2 (i := 155) rfl rfl
theorem kw_396 : (Jvm.Cond.methodLink "NextBench" (296 : Nat) ({ cls := "NextBench$Scene", name := "allSeats", desc := "()I" } : Jvm.MethodName)) ∈ tbG := tb_2 (i := 156) rfl rfl
theorem kw_397 : (Jvm.Cond.instanceMethod ({ cls := "NextBench$Scene", name := "allSeats", desc := "()I" } : Jvm.MethodName)) ∈ tbG := tb_2 (i := 157) rfl rfl
theorem kw_398 : (Jvm.Cond.selects "NextBench$Scene" ({ cls := "NextBench$Scene", name := "allSeats", desc := "()I" } : Jvm.MethodName) ({ cls := "NextBench$Scene", name := "allSeats", desc := "()I" } : Jvm.MethodName)) ∈ tbG := tb_2 (i := 158) rfl rfl
theorem kw_399 : (Jvm.Cond.code ({ cls := "NextBench$Scene", name := "allSeats", desc := "()I" } : Jvm.MethodName) prog_9_method_3_code (1 : Nat) (Option.some Jvm.ClassFile.FieldType.int)) ∈ tbG := tb_2 (i := 159) rfl rfl
theorem kw_400 : (Jvm.Cond.methodLink "NextBench" (299 : Nat) ({ cls := "NextBench$Sitters", name := "seatSet", desc := "(I)Z" } : Jvm.MethodName)) ∈ tbG := tb_2 (i := 160) rfl rfl
theorem kw_401 : (Jvm.Cond.instanceMethod ({ cls := "NextBench$Sitters", name := "seatSet", desc := "(I)Z" } : Jvm.MethodName)) ∈ tbG := tb_2 (i := 161) rfl rfl
theorem kw_402 : (Jvm.Cond.selects "NextBench$Sitters" ({ cls := "NextBench$Sitters", name := "seatSet", desc := "(I)Z" } : Jvm.MethodName) ({ cls := "NextBench$Sitters", name := "seatSet", desc := "(I)Z" } : Jvm.MethodName)) ∈ tbG := tb_2 (i := 162) rfl rfl
theorem kw_403 : (Jvm.Cond.code ({ cls := "NextBench$Sitters", name := "seatSet", desc := "(I)Z" } : Jvm.MethodName) prog_11_method_6_code (3 : Nat) (Option.some Jvm.ClassFile.FieldType.boolean)) ∈ tbG := tb_2 (i := 163) rfl rfl
theorem kw_404 : (Jvm.Cond.methodLink "NextBench$Sitters" (59 : Nat) ({ cls := "NextBench$Sitters", name := "leave", desc := "()V" } : Jvm.MethodName)) ∈ tbG := tb_2 (i := 164) rfl rfl
theorem kw_405 : (Jvm.Cond.instanceMethod ({ cls := "NextBench$Sitters", name := "leave", desc := "()V" } : Jvm.MethodName)) ∈ tbG := tb_2 (i := 165) rfl rfl
theorem kw_406 : (Jvm.Cond.selects "NextBench$Sitters" ({ cls := "NextBench$Sitters", name := "leave", desc := "()V" } : Jvm.MethodName) ({ cls := "NextBench$Sitters", name := "leave", desc := "()V" } : Jvm.MethodName)) ∈ tbG := tb_2 (i := 166) rfl rfl
theorem kw_407 : (Jvm.Cond.code ({ cls := "NextBench$Sitters", name := "leave", desc := "()V" } : Jvm.MethodName) prog_11_method_2_code (1 : Nat) (Option.none : Option Jvm.ClassFile.FieldType)) ∈ tbG := tb_2 (i := 167) rfl rfl
theorem kw_408 : (Jvm.Cond.methodLink "NextBench$Sitters" (35 : Nat) ({ cls := "java/util/Arrays", name := "fill", desc := "([II)V" } : Jvm.MethodName)) ∈ tbG := tb_2 (i := 168) rfl rfl
theorem kw_409 : (Jvm.Cond.methodLink "NextBench$Sitters" (62 : Nat) ({ cls := "NextBench$Sitters", name := "isOpen", desc := "(I)Z" } : Jvm.MethodName)) ∈ tbG := tb_2 (i := 169) rfl rfl
theorem kw_410 : (Jvm.Cond.instanceMethod ({ cls := "NextBench$Sitters", name := "isOpen", desc := "(I)Z" } : Jvm.MethodName)) ∈ tbG := tb_2 (i := 170) rfl rfl
theorem kw_411 : (Jvm.Cond.selects "NextBench$Sitters" ({ cls := "NextBench$Sitters", name := "isOpen", desc := "(I)Z" } : Jvm.MethodName) ({ cls := "NextBench$Sitters", name := "isOpen", desc := "(I)Z" } : Jvm.MethodName)) ∈ tbG := tb_2 (i := 171) rfl rfl
theorem kw_412 : (Jvm.Cond.code ({ cls := "NextBench$Sitters", name := "isOpen", desc := "(I)Z" } : Jvm.MethodName) prog_11_method_4_code (2 : Nat) (Option.some Jvm.ClassFile.FieldType.boolean)) ∈ tbG := tb_2 (i := 172) rfl rfl
theorem kw_413 : (Jvm.Cond.methodLink "NextBench$Sitters" (66 : Nat) ({ cls := "NextBench$Sitters", name := "sit", desc := "(I)V" } : Jvm.MethodName)) ∈ tbG := tb_2 (i := 173) rfl rfl
theorem kw_414 : (Jvm.Cond.instanceMethod ({ cls := "NextBench$Sitters", name := "sit", desc := "(I)V" } : Jvm.MethodName)) ∈ tbG := tb_2 (i := 174) rfl rfl
theorem kw_415 : (Jvm.Cond.selects "NextBench$Sitters" ({ cls := "NextBench$Sitters", name := "sit", desc := "(I)V" } : Jvm.MethodName) ({ cls := "NextBench$Sitters", name := "sit", desc := "(I)V" } : Jvm.MethodName)) ∈ tbG := tb_2 (i := 175) rfl rfl
theorem kw_416 : (Jvm.Cond.code ({ cls := "NextBench$Sitters", name := "sit", desc := "(I)V" } : Jvm.MethodName) prog_11_method_5_code (3 : Nat) (Option.none : Option Jvm.ClassFile.FieldType)) ∈ tbG := tb_2 (i := 176) rfl rfl
theorem kw_417 : (Jvm.Cond.methodLink "NextBench$Sitters" (50 : Nat) ({ cls := "NextBench$Bench", name := "farness", desc := "(II)I" } : Jvm.MethodName)) ∈ tbG := tb_2 (i := 177) rfl rfl
theorem kw_418 : (Jvm.Cond.methodLink "NextBench$Sitters" (54 : Nat) ({ cls := "java/lang/Math", name := "min", desc := "(II)I" } : Jvm.MethodName)) ∈ tbG := tb_2 (i := 178) rfl rfl
theorem kw_419 : (Jvm.Cond.static ({ cls := "java/lang/Math", name := "min", desc := "(II)I" } : Jvm.MethodName)) ∈ tbG := tb_2 (i := 179) rfl rfl
theorem kw_420 : (Jvm.Cond.code ({ cls := "java/lang/Math", name := "min", desc := "(II)I" } : Jvm.MethodName) prog_15_method_69_code (2 : Nat) (Option.some Jvm.ClassFile.FieldType.int)) ∈ tbG := tb_2 (i := 180) rfl rfl
theorem kw_421 : (Jvm.Cond.methodLink "NextBench" (155 : Nat) ({ cls := "NextBench$Sitters", name := "openSeats", desc := "()I" } : Jvm.MethodName)) ∈ tbG := tb_2 (i := 181) rfl rfl
theorem kw_422 : (Jvm.Cond.instanceMethod ({ cls := "NextBench$Sitters", name := "openSeats", desc := "()I" } : Jvm.MethodName)) ∈ tbG := tb_2 (i := 182) rfl rfl
theorem kw_423 : (Jvm.Cond.selects "NextBench$Sitters" ({ cls := "NextBench$Sitters", name := "openSeats", desc := "()I" } : Jvm.MethodName) ({ cls := "NextBench$Sitters", name := "openSeats", desc := "()I" } : Jvm.MethodName)) ∈ tbG := tb_2 (i := 183) rfl rfl
theorem kw_424 : (Jvm.Cond.code ({ cls := "NextBench$Sitters", name := "openSeats", desc := "()I" } : Jvm.MethodName) prog_11_method_7_code (3 : Nat) (Option.some Jvm.ClassFile.FieldType.int)) ∈ tbG := tb_2 (i := 184) rfl rfl
theorem kw_425 : (Jvm.Cond.methodLink "NextBenchLaw" (48 : Nat) ({ cls := "NextBench", name := "takes", desc := "(II)I" } : Jvm.MethodName)) ∈ tbG := tb_2 (i := 185) rfl rfl
theorem kw_426 : (Jvm.Cond.instanceMethod ({ cls := "NextBench", name := "takes", desc := "(II)I" } : Jvm.MethodName)) ∈ tbG := tb_2 (i := 186) rfl rfl
theorem kw_427 : (Jvm.Cond.selects "NextBench" ({ cls := "NextBench", name := "takes", desc := "(II)I" } : Jvm.MethodName) ({ cls := "NextBench", name := "takes", desc := "(II)I" } : Jvm.MethodName)) ∈ tbG := tb_2 (i := 187) rfl rfl
theorem kw_428 : (Jvm.Cond.code ({ cls := "NextBench", name := "takes", desc := "(II)I" } : Jvm.MethodName) prog_1_method_10_code (4 : Nat) (Option.some Jvm.ClassFile.FieldType.int)) ∈ tbG := tb_2 (i := 188) rfl rfl
theorem kw_429 : (Jvm.Cond.methodLink "NextBench" (158 : Nat) ({ cls := "NextBench", name := "isHabit", desc := "(I)Z" } : Jvm.MethodName)) ∈ tbG := tb_2 (i := 189) rfl rfl
theorem kw_430 : (Jvm.Cond.static ({ cls := "NextBench", name := "isHabit", desc := "(I)Z" } : Jvm.MethodName)) ∈ tbG := tb_2 (i := 190) rfl rfl
theorem kw_431 : (Jvm.Cond.code ({ cls := "NextBench", name := "isHabit", desc := "(I)Z" } : Jvm.MethodName) prog_1_method_37_code (1 : Nat) (Option.some Jvm.ClassFile.FieldType.boolean)) ∈ tbG := tb_2 (i := 191) rfl rfl
theorem kw_432 : (Jvm.Cond.methodLink "NextBench" (161 : Nat) ({ cls := "NextBench$Sitters", name := "choice", desc := "(I)I" } : Jvm.MethodName)) ∈ tbG := tb_2 (i := 192) rfl rfl
theorem kw_433 : (Jvm.Cond.instanceMethod ({ cls := "NextBench$Sitters", name := "choice", desc := "(I)I" } : Jvm.MethodName)) ∈ tbG := tb_2 (i := 193) rfl rfl
theorem kw_434 : (Jvm.Cond.selects "NextBench$Sitters" ({ cls := "NextBench$Sitters", name := "choice", desc := "(I)I" } : Jvm.MethodName) ({ cls := "NextBench$Sitters", name := "choice", desc := "(I)I" } : Jvm.MethodName)) ∈ tbG := tb_2 (i := 194) rfl rfl
theorem kw_435 : (Jvm.Cond.code ({ cls := "NextBench$Sitters", name := "choice", desc := "(I)I" } : Jvm.MethodName) prog_11_method_8_code (6 : Nat) (Option.some Jvm.ClassFile.FieldType.int)) ∈ tbG := tb_2 (i := 195) rfl rfl
theorem kw_436 : (Jvm.Cond.methodLink "NextBench$Sitters" (70 : Nat) ({ cls := "NextBench$Sitters", name := "wishFor", desc := "(II)I" } : Jvm.MethodName)) ∈ tbG := tb_2 (i := 196) rfl rfl
theorem kw_438 : (Jvm.Cond.instanceMethod ({ cls := "NextBench$Sitters", name := "wishFor", desc := "(II)I" } : Jvm.MethodName)) ∈ tbG := tb_2 (i := 198) rfl rfl
theorem kw_439 : (Jvm.Cond.code ({ cls := "NextBench$Sitters", name := "wishFor", desc := "(II)I" } : Jvm.MethodName) prog_11_method_9_code (3 : Nat) (Option.some Jvm.ClassFile.FieldType.int)) ∈ tbG := tb_2 (i := 199) rfl rfl
theorem kw_440 : (Jvm.Cond.methodLink "NextBenchLaw" (52 : Nat) ({ cls := "NextBench", name := "fill", desc := "(II)I" } : Jvm.MethodName)) ∈ tbG := tb_2 (i := 200) rfl rfl
theorem kw_441 : (Jvm.Cond.instanceMethod ({ cls := "NextBench", name := "fill", desc := "(II)I" } : Jvm.MethodName)) ∈ tbG := tb_2 (i := 201) rfl rfl
theorem kw_442 : (Jvm.Cond.selects "NextBench" ({ cls := "NextBench", name := "fill", desc := "(II)I" } : Jvm.MethodName) ({ cls := "NextBench", name := "fill", desc := "(II)I" } : Jvm.MethodName)) ∈ tbG := tb_2 (i := 202) rfl rfl
theorem kw_443 : (Jvm.Cond.code ({ cls := "NextBench", name := "fill", desc := "(II)I" } : Jvm.MethodName) prog_1_method_11_code (4 : Nat) (Option.some Jvm.ClassFile.FieldType.int)) ∈ tbG := tb_2 (i := 203) rfl rfl
theorem kw_444 : (Jvm.Cond.methodLink "NextBench" (164 : Nat) ({ cls := "NextBench$Sitters", name := "fillUp", desc := "(I)V" } : Jvm.MethodName)) ∈ tbG := tb_2 (i := 204) rfl rfl
theorem kw_445 : (Jvm.Cond.instanceMethod ({ cls := "NextBench$Sitters", name := "fillUp", desc := "(I)V" } : Jvm.MethodName)) ∈ tbG := tb_2 (i := 205) rfl rfl
theorem kw_446 : (Jvm.Cond.selects "NextBench$Sitters" ({ cls := "NextBench$Sitters", name := "fillUp", desc := "(I)V" } : Jvm.MethodName) ({ cls := "NextBench$Sitters", name := "fillUp", desc := "(I)V" } : Jvm.MethodName)) ∈ tbG := tb_2 (i := 206) rfl rfl
theorem kw_447 : (Jvm.Cond.code ({ cls := "NextBench$Sitters", name := "fillUp", desc := "(I)V" } : Jvm.MethodName) prog_11_method_10_code (4 : Nat) (Option.none : Option Jvm.ClassFile.FieldType)) ∈ tbG := tb_2 (i := 207) rfl rfl
theorem kw_448 : (Jvm.Cond.methodLink "NextBench$Sitters" (79 : Nat) ({ cls := "NextBench$Sitters", name := "choice", desc := "(I)I" } : Jvm.MethodName)) ∈ tbG := tb_2 (i := 208) rfl rfl
theorem kw_449 : (Jvm.Cond.methodLink "NextBenchLaw" (56 : Nat) ({ cls := "NextBench", name := "whole", desc := "(I)I" } : Jvm.MethodName)) ∈ tbG := tb_2 (i := 209) rfl rfl
theorem kw_450 : (Jvm.Cond.instanceMethod ({ cls := "NextBench", name := "whole", desc := "(I)I" } : Jvm.MethodName)) ∈ tbG := tb_2 (i := 210) rfl rfl
theorem kw_451 : (Jvm.Cond.selects "NextBench" ({ cls := "NextBench", name := "whole", desc := "(I)I" } : Jvm.MethodName) ({ cls := "NextBench", name := "whole", desc := "(I)I" } : Jvm.MethodName)) ∈ tbG := tb_2 (i := 211) rfl rfl
theorem kw_452 : (Jvm.Cond.code ({ cls := "NextBench", name := "whole", desc := "(I)I" } : Jvm.MethodName) prog_1_method_12_code (3 : Nat) (Option.some Jvm.ClassFile.FieldType.int)) ∈ tbG := tb_2 (i := 212) rfl rfl
theorem kw_453 : (Jvm.Cond.methodLink "NextBench" (170 : Nat) ({ cls := "NextBench$Census", name := "take", desc := "(LNextBench$Bench;LNextBench$Sets;)V" } : Jvm.MethodName)) ∈ tbG := tb_2 (i := 213) rfl rfl
theorem kw_454 : (Jvm.Cond.instanceMethod ({ cls := "NextBench$Census", name := "take", desc := "(LNextBench$Bench;LNextBench$Sets;)V" } : Jvm.MethodName)) ∈ tbG := tb_2 (i := 214) rfl rfl
theorem kw_455 : (Jvm.Cond.selects "NextBench$Census" ({ cls := "NextBench$Census", name := "take", desc := "(LNextBench$Bench;LNextBench$Sets;)V" } : Jvm.MethodName) ({ cls := "NextBench$Census", name := "take", desc := "(LNextBench$Bench;LNextBench$Sets;)V" } : Jvm.MethodName)) ∈ tbG := tb_2 (i := 215) rfl rfl
theorem kw_456 : (Jvm.Cond.code ({ cls := "NextBench$Census", name := "take", desc := "(LNextBench$Bench;LNextBench$Sets;)V" } : Jvm.MethodName) prog_3_method_2_code (4 : Nat) (Option.none : Option Jvm.ClassFile.FieldType)) ∈ tbG := tb_2 (i := 216) rfl rfl
theorem kw_457 : (Jvm.Cond.methodLink "NextBench$Census" (38 : Nat) ({ cls := "NextBench$Scene", name := "allSeats", desc := "()I" } : Jvm.MethodName)) ∈ tbG := tb_2 (i := 217) rfl rfl
theorem kw_458 : (Jvm.Cond.methodLink "NextBench$Census" (42 : Nat) ({ cls := "NextBench$Sets", name := "list", desc := "([III)V" } : Jvm.MethodName)) ∈ tbG := tb_2 (i := 218) rfl rfl
theorem kw_459 : (Jvm.Cond.instanceMethod ({ cls := "NextBench$Sets", name := "list", desc := "([III)V" } : Jvm.MethodName)) ∈ tbG := tb_2 (i := 219) rfl rfl
theorem kw_460 : (Jvm.Cond.selects "NextBench$Sets" ({ cls := "NextBench$Sets", name := "list", desc := "([III)V" } : Jvm.MethodName) ({ cls := "NextBench$Sets", name := "list", desc := "([III)V" } : Jvm.MethodName)) ∈ tbG := tb_2 (i := 220) rfl rfl
theorem kw_461 : (Jvm.Cond.code ({ cls := "NextBench$Sets", name := "list", desc := "([III)V" } : Jvm.MethodName) prog_10_method_2_code (7 : Nat) (Option.none : Option Jvm.ClassFile.FieldType)) ∈ tbG := tb_2 (i := 221) rfl rfl
theorem kw_462 : (Jvm.Cond.methodLink "NextBench$Census" (48 : Nat) ({ cls := "NextBench$Sets", name := "spreadChances", desc := "()V" } : Jvm.MethodName)) ∈ tbG := tb_2 (i := 222) rfl rfl
theorem kw_463 : (Jvm.Cond.instanceMethod ({ cls := "NextBench$Sets", name := "spreadChances", desc := "()V" } : Jvm.MethodName)) ∈ tbG := tb_2 (i := 223) rfl rfl
theorem kw_464 : (Jvm.Cond.selects "NextBench$Sets" ({ cls := "NextBench$Sets", name := "spreadChances", desc := "()V" } : Jvm.MethodName) ({ cls := "NextBench$Sets", name := "spreadChances", desc := "()V" } : Jvm.MethodName)) ∈ tbG := tb_2 (i := 224) rfl rfl
theorem kw_465 : (Jvm.Cond.code ({ cls := "NextBench$Sets", name := "spreadChances", desc := "()V" } : Jvm.MethodName) prog_10_method_4_code (5 : Nat) (Option.none : Option Jvm.ClassFile.FieldType)) ∈ tbG := tb_2 (i := 225) rfl rfl
theorem kw_466 : (Jvm.Cond.constant "NextBench$Sets" (40 : Nat) (479001600 : Int32)) ∈ tbG := tb_2 (i := 226) rfl rfl
theorem kw_467 : (Jvm.Cond.methodLink "NextBench$Sets" (28 : Nat) ({ cls := "java/lang/Integer", name := "bitCount", desc := "(I)I" } : Jvm.MethodName)) ∈ tbG := tb_2 (i := 227) rfl rfl
theorem kw_468 : (Jvm.Cond.static ({ cls := "java/lang/Integer", name := "bitCount", desc := "(I)I" } : Jvm.MethodName)) ∈ tbG := tb_2 (i := 228) rfl rfl
theorem kw_469 : (Jvm.Cond.code ({ cls := "java/lang/Integer", name := "bitCount", desc := "(I)I" } : Jvm.MethodName) prog_14_method_49_code (1 : Nat) (Option.some Jvm.ClassFile.FieldType.int)) ∈ tbG := tb_2 (i := 229) rfl rfl
theorem kw_470 : (Jvm.Cond.constant "java/lang/Integer" (265 : Nat) (1431655765 : Int32)) ∈ tbG := tb_2 (i := 230) rfl rfl
theorem kw_471 : (Jvm.Cond.constant "java/lang/Integer" (266 : Nat) (858993459 : Int32)) ∈ tbG := tb_2 (i := 231) rfl rfl
theorem kw_472 : (Jvm.Cond.constant "java/lang/Integer" (267 : Nat) (252645135 : Int32)) ∈ tbG := tb_2 (i := 232) rfl rfl
theorem kw_473 : (Jvm.Cond.methodLink "NextBench$Census" (51 : Nat) ({ cls := "java/util/Arrays", name := "fill", desc := "([II)V" } : Jvm.MethodName)) ∈ tbG := tb_2 (i := 233) rfl rfl
theorem kw_474 : (Jvm.Cond.methodLink "NextBench$Census" (57 : Nat) ({ cls := "java/util/Arrays", name := "fill", desc := "([JJ)V" } : Jvm.MethodName)) ∈ tbG := tb_2 (i := 234) rfl rfl
theorem kw_475 : (Jvm.Cond.static ({ cls := "java/util/Arrays", name := "fill", desc := "([JJ)V" } : Jvm.MethodName)) ∈ tbG := tb_2 (i := 235) rfl rfl
theorem kw_476 : (Jvm.Cond.code ({ cls := "java/util/Arrays", name := "fill", desc := "([JJ)V" } : Jvm.MethodName) prog_17_method_101_code (5 : Nat) (Option.none : Option Jvm.ClassFile.FieldType)) ∈ tbG := tb_2 (i := 236) rfl rfl
theorem kw_477 : (Jvm.Cond.methodLink "NextBench$Census" (78 : Nat) ({ cls := "NextBench$Census", name := "note", desc := "(II)V" } : Jvm.MethodName)) ∈ tbG := tb_2 (i := 237) rfl rfl
theorem kw_479 : (Jvm.Cond.instanceMethod ({ cls := "NextBench$Census", name := "note", desc := "(II)V" } : Jvm.MethodName)) ∈ tbG := tb_2 (i := 239) rfl rfl
theorem kw_480 : (Jvm.Cond.code ({ cls := "NextBench$Census", name := "note", desc := "(II)V" } : Jvm.MethodName) prog_3_method_3_code (4 : Nat) (Option.none : Option Jvm.ClassFile.FieldType)) ∈ tbG := tb_3 (i := 0) rfl rfl
theorem kw_481 : (Jvm.Cond.methodLink "NextBench$Census" (82 : Nat) ({ cls := "java/lang/Integer", name := "bitCount", desc := "(I)I" } : Jvm.MethodName)) ∈ tbG := tb_3 (i := 1) rfl rfl
theorem kw_482 : (Jvm.Cond.methodLink "NextBench" (180 : Nat) ({ cls := "java/lang/Integer", name := "bitCount", desc := "(I)I" } : Jvm.MethodName)) ∈ tbG := tb_3 (i := 2) rfl rfl
theorem kw_483 : (Jvm.Cond.methodLink "NextBenchLaw" (60 : Nat) ({ cls := "NextBench", name := "ways", desc := "(I)I" } : Jvm.MethodName)) ∈ tbG := tb_3 (i := 3) rfl rfl
theorem kw_484 : (Jvm.Cond.instanceMethod ({ cls := "NextBench", name := "ways", desc := "(I)I" } : Jvm.MethodName)) ∈ tbG := tb_3 (i := 4) rfl rfl
theorem kw_485 : (Jvm.Cond.selects "NextBench" ({ cls := "NextBench", name := "ways", desc := "(I)I" } : Jvm.MethodName) ({ cls := "NextBench", name := "ways", desc := "(I)I" } : Jvm.MethodName)) ∈ tbG := tb_3 (i := 5) rfl rfl
theorem kw_486 : (Jvm.Cond.code ({ cls := "NextBench", name := "ways", desc := "(I)I" } : Jvm.MethodName) prog_1_method_13_code (2 : Nat) (Option.some Jvm.ClassFile.FieldType.int)) ∈ tbG := tb_3 (i := 6) rfl rfl
theorem kw_487 : (Jvm.Cond.methodLink "NextBenchLaw" (64 : Nat) ({ cls := "NextBench", name := "mean", desc := "(I)J" } : Jvm.MethodName)) ∈ tbG := tb_3 (i := 7) rfl rfl
theorem kw_488 : (Jvm.Cond.instanceMethod ({ cls := "NextBench", name := "mean", desc := "(I)J" } : Jvm.MethodName)) ∈ tbG := tb_3 (i := 8) rfl rfl
theorem kw_489 : (Jvm.Cond.selects "NextBench" ({ cls := "NextBench", name := "mean", desc := "(I)J" } : Jvm.MethodName) ({ cls := "NextBench", name := "mean", desc := "(I)J" } : Jvm.MethodName)) ∈ tbG := tb_3 (i := 9) rfl rfl
theorem kw_490 : (Jvm.Cond.code ({ cls := "NextBench", name := "mean", desc := "(I)J" } : Jvm.MethodName) prog_1_method_14_code (2 : Nat) (Option.some Jvm.ClassFile.FieldType.long)) ∈ tbG := tb_3 (i := 10) rfl rfl
theorem kw_491 : (Jvm.Cond.constantLong "NextBench" (188 : Nat) (-1000000000000000002 : Int64)) ∈ tbG := tb_3 (i := 11) rfl rfl
theorem kw_492 : (Jvm.Cond.methodLink "NextBench" (190 : Nat) ({ cls := "NextBench$Census", name := "sumOfSitters", desc := "()J" } : Jvm.MethodName)) ∈ tbG := tb_3 (i := 12) rfl rfl
theorem kw_493 : (Jvm.Cond.instanceMethod ({ cls := "NextBench$Census", name := "sumOfSitters", desc := "()J" } : Jvm.MethodName)) ∈ tbG := tb_3 (i := 13) rfl rfl
theorem kw_494 : (Jvm.Cond.selects "NextBench$Census" ({ cls := "NextBench$Census", name := "sumOfSitters", desc := "()J" } : Jvm.MethodName) ({ cls := "NextBench$Census", name := "sumOfSitters", desc := "()J" } : Jvm.MethodName)) ∈ tbG := tb_3 (i := 14) rfl rfl
theorem kw_495 : (Jvm.Cond.code ({ cls := "NextBench$Census", name := "sumOfSitters", desc := "()J" } : Jvm.MethodName) prog_3_method_4_code (4 : Nat) (Option.some Jvm.ClassFile.FieldType.long)) ∈ tbG := tb_3 (i := 15) rfl rfl
theorem kw_496 : (Jvm.Cond.constantLong "NextBench" (194 : Nat) (479001600 : Int64)) ∈ tbG := tb_3 (i := 16) rfl rfl
theorem kw_497 : (Jvm.Cond.methodLink "NextBench" (196 : Nat) ({ cls := "NextBench", name := "lowestPart", desc := "(JJI)J" } : Jvm.MethodName)) ∈ tbG := tb_3 (i := 17) rfl rfl
theorem kw_498 : (Jvm.Cond.static ({ cls := "NextBench", name := "lowestPart", desc := "(JJI)J" } : Jvm.MethodName)) ∈ tbG := tb_3 (i := 18) rfl rfl
theorem kw_499 : (Jvm.Cond.code ({ cls := "NextBench", name := "lowestPart", desc := "(JJI)J" } : Jvm.MethodName) prog_1_method_49_code (7 : Nat) (Option.some Jvm.ClassFile.FieldType.long)) ∈ tbG := tb_3 (i := 19) rfl rfl
theorem kw_500 : (Jvm.Cond.methodLink "NextBench" (319 : Nat) ({ cls := "NextBench", name := "commonDivisor", desc := "(JJ)J" } : Jvm.MethodName)) ∈ tbG := tb_3 (i := 20) rfl rfl
theorem kw_501 : (Jvm.Cond.static ({ cls := "NextBench", name := "commonDivisor", desc := "(JJ)J" } : Jvm.MethodName)) ∈ tbG := tb_3 (i := 21) rfl rfl
theorem kw_502 : (Jvm.Cond.code ({ cls := "NextBench", name := "commonDivisor", desc := "(JJ)J" } : Jvm.MethodName) prog_1_method_50_code (11 : Nat) (Option.some Jvm.ClassFile.FieldType.long)) ∈ tbG := tb_3 (i := 22) rfl rfl
theorem kw_503 : (Jvm.Cond.methodLink "NextBenchLaw" (69 : Nat) ({ cls := "NextBench", name := "odds", desc := "(II)J" } : Jvm.MethodName)) ∈ tbG := tb_3 (i := 23) rfl rfl
theorem kw_504 : (Jvm.Cond.instanceMethod ({ cls := "NextBench", name := "odds", desc := "(II)J" } : Jvm.MethodName)) ∈ tbG := tb_3 (i := 24) rfl rfl
theorem kw_505 : (Jvm.Cond.selects "NextBench" ({ cls := "NextBench", name := "odds", desc := "(II)J" } : Jvm.MethodName) ({ cls := "NextBench", name := "odds", desc := "(II)J" } : Jvm.MethodName)) ∈ tbG := tb_3 (i := 25) rfl rfl
theorem kw_506 : (Jvm.Cond.code ({ cls := "NextBench", name := "odds", desc := "(II)J" } : Jvm.MethodName) prog_1_method_15_code (3 : Nat) (Option.some Jvm.ClassFile.FieldType.long)) ∈ tbG := tb_3 (i := 26) rfl rfl
theorem kw_507 : (Jvm.Cond.methodLink "NextBenchLaw" (74 : Nat) ({ cls := "NextBench", name := "first", desc := "(II)I" } : Jvm.MethodName)) ∈ tbG := tb_3 (i := 27) rfl rfl
theorem kw_508 : (Jvm.Cond.instanceMethod ({ cls := "NextBench", name := "first", desc := "(II)I" } : Jvm.MethodName)) ∈ tbG := tb_3 (i := 28) rfl rfl
theorem kw_509 : (Jvm.Cond.selects "NextBench" ({ cls := "NextBench", name := "first", desc := "(II)I" } : Jvm.MethodName) ({ cls := "NextBench", name := "first", desc := "(II)I" } : Jvm.MethodName)) ∈ tbG := tb_3 (i := 29) rfl rfl
theorem kw_510 : (Jvm.Cond.code ({ cls := "NextBench", name := "first", desc := "(II)I" } : Jvm.MethodName) prog_1_method_16_code (8 : Nat) (Option.some Jvm.ClassFile.FieldType.int)) ∈ tbG := tb_3 (i := 30) rfl rfl
theorem kw_511 : (Jvm.Cond.methodLink "NextBench" (204 : Nat) ({ cls := "NextBench", name := "comeInAfter", desc := "(II)I" } : Jvm.MethodName)) ∈ tbG := tb_3 (i := 31) rfl rfl
theorem kw_513 : (Jvm.Cond.instanceMethod ({ cls := "NextBench", name := "comeInAfter", desc := "(II)I" } : Jvm.MethodName)) ∈ tbG := tb_3 (i := 33) rfl rfl
theorem kw_514 : (Jvm.Cond.code ({ cls := "NextBench", name := "comeInAfter", desc := "(II)I" } : Jvm.MethodName) prog_1_method_41_code (3 : Nat) (Option.some Jvm.ClassFile.FieldType.int)) ∈ tbG := tb_3 (i := 34) rfl rfl
theorem kw_515 : (Jvm.Cond.methodLink "NextBench" (228 : Nat) ({ cls := "NextBench$Sitters", name := "leave", desc := "()V" } : Jvm.MethodName)) ∈ tbG := tb_3 (i := 35) rfl rfl
theorem kw_516 : (Jvm.Cond.methodLink "NextBench" (266 : Nat) ({ cls := "NextBench$Sitters", name := "sit", desc := "(I)V" } : Jvm.MethodName)) ∈ tbG := tb_3 (i := 36) rfl rfl
theorem kw_517 : (Jvm.Cond.methodLink "NextBench" (232 : Nat) ({ cls := "NextBench$Sitters", name := "number", desc := "()I" } : Jvm.MethodName)) ∈ tbG := tb_3 (i := 37) rfl rfl
theorem kw_518 : (Jvm.Cond.instanceMethod ({ cls := "NextBench$Sitters", name := "number", desc := "()I" } : Jvm.MethodName)) ∈ tbG := tb_3 (i := 38) rfl rfl
theorem kw_519 : (Jvm.Cond.selects "NextBench$Sitters" ({ cls := "NextBench$Sitters", name := "number", desc := "()I" } : Jvm.MethodName) ({ cls := "NextBench$Sitters", name := "number", desc := "()I" } : Jvm.MethodName)) ∈ tbG := tb_3 (i := 39) rfl rfl
theorem kw_520 : (Jvm.Cond.code ({ cls := "NextBench$Sitters", name := "number", desc := "()I" } : Jvm.MethodName) prog_11_method_3_code (1 : Nat) (Option.some Jvm.ClassFile.FieldType.int)) ∈ tbG := tb_3 (i := 40) rfl rfl
theorem kw_521 : (Jvm.Cond.methodLink "NextBench$Sitters" (41 : Nat) ({ cls := "java/lang/Integer", name := "bitCount", desc := "(I)I" } : Jvm.MethodName)) ∈ tbG := tb_3 (i := 41) rfl rfl
theorem kw_522 : (Jvm.Cond.methodLink "NextBenchLaw" (78 : Nat) ({ cls := "NextBench", name := "game", desc := "(III)I" } : Jvm.MethodName)) ∈ tbG := tb_3 (i := 42) rfl rfl
theorem kw_523 : (Jvm.Cond.instanceMethod ({ cls := "NextBench", name := "game", desc := "(III)I" } : Jvm.MethodName)) ∈ tbG := tb_3 (i := 43) rfl rfl
theorem kw_524 : (Jvm.Cond.selects "NextBench" ({ cls := "NextBench", name := "game", desc := "(III)I" } : Jvm.MethodName) ({ cls := "NextBench", name := "game", desc := "(III)I" } : Jvm.MethodName)) ∈ tbG := tb_3 (i := 44) rfl rfl
theorem kw_525 : (Jvm.Cond.code ({ cls := "NextBench", name := "game", desc := "(III)I" } : Jvm.MethodName) prog_1_method_17_code (5 : Nat) (Option.some Jvm.ClassFile.FieldType.int)) ∈ tbG := tb_3 (i := 45) rfl rfl
theorem kw_526 : (Jvm.Cond.methodLink "NextBench" (207 : Nat) ({ cls := "NextBench$Match", name := "play", desc := "(LNextBench$Bench;LNextBench$Sets;)V" } : Jvm.MethodName)) ∈ tbG := tb_3 (i := 46) rfl rfl
theorem kw_527 : (Jvm.Cond.instanceMethod ({ cls := "NextBench$Match", name := "play", desc := "(LNextBench$Bench;LNextBench$Sets;)V" } : Jvm.MethodName)) ∈ tbG := tb_3 (i := 47) rfl rfl
theorem kw_528 : (Jvm.Cond.selects "NextBench$Match" ({ cls := "NextBench$Match", name := "play", desc := "(LNextBench$Bench;LNextBench$Sets;)V" } : Jvm.MethodName) ({ cls := "NextBench$Match", name := "play", desc := "(LNextBench$Bench;LNextBench$Sets;)V" } : Jvm.MethodName)) ∈ tbG := tb_3 (i := 48) rfl rfl
theorem kw_529 : (Jvm.Cond.code ({ cls := "NextBench$Match", name := "play", desc := "(LNextBench$Bench;LNextBench$Sets;)V" } : Jvm.MethodName) prog_6_method_2_code (4 : Nat) (Option.none : Option Jvm.ClassFile.FieldType)) ∈ tbG := tb_3 (i := 49) rfl rfl
theorem kw_530 : (Jvm.Cond.methodLink "NextBench$Match" (37 : Nat) ({ cls := "NextBench$Scene", name := "allSeats", desc := "()I" } : Jvm.MethodName)) ∈ tbG := tb_3 (i := 50) rfl rfl
theorem kw_531 : (Jvm.Cond.methodLink "NextBench$Match" (41 : Nat) ({ cls := "NextBench$Sets", name := "list", desc := "([III)V" } : Jvm.MethodName)) ∈ tbG := tb_3 (i := 51) rfl rfl
theorem kw_532 : (Jvm.Cond.methodLink "NextBench$Match" (59 : Nat) ({ cls := "NextBench$Match", name := "settle", desc := "(III)V" } : Jvm.MethodName)) ∈ tbG := tb_3 (i := 52) rfl rfl
theorem kw_534 : (Jvm.Cond.instanceMethod ({ cls := "NextBench$Match", name := "settle", desc := "(III)V" } : Jvm.MethodName)) ∈ tbG := tb_3 (i := 54) rfl rfl
theorem kw_535 : (Jvm.Cond.code ({ cls := "NextBench$Match", name := "settle", desc := "(III)V" } : Jvm.MethodName) prog_6_method_3_code (8 : Nat) (Option.none : Option Jvm.ClassFile.FieldType)) ∈ tbG := tb_3 (i := 55) rfl rfl
theorem kw_536 : (Jvm.Cond.methodLink "NextBench$Match" (63 : Nat) ({ cls := "java/lang/Integer", name := "bitCount", desc := "(I)I" } : Jvm.MethodName)) ∈ tbG := tb_3 (i := 56) rfl rfl
theorem kw_537 : (Jvm.Cond.methodLink "NextBench$Match" (69 : Nat) ({ cls := "java/lang/Math", name := "max", desc := "(II)I" } : Jvm.MethodName)) ∈ tbG := tb_3 (i := 57) rfl rfl
theorem kw_538 : (Jvm.Cond.static ({ cls := "java/lang/Math", name := "max", desc := "(II)I" } : Jvm.MethodName)) ∈ tbG := tb_3 (i := 58) rfl rfl
theorem kw_539 : (Jvm.Cond.code ({ cls := "java/lang/Math", name := "max", desc := "(II)I" } : Jvm.MethodName) prog_15_method_65_code (2 : Nat) (Option.some Jvm.ClassFile.FieldType.int)) ∈ tbG := tb_3 (i := 59) rfl rfl
theorem kw_540 : (Jvm.Cond.methodLink "NextBench$Match" (75 : Nat) ({ cls := "java/lang/Math", name := "min", desc := "(II)I" } : Jvm.MethodName)) ∈ tbG := tb_3 (i := 60) rfl rfl
theorem kw_541 : (Jvm.Cond.methodLink "NextBench" (210 : Nat) ({ cls := "NextBench$Match", name := "result", desc := "(II)I" } : Jvm.MethodName)) ∈ tbG := tb_3 (i := 61) rfl rfl
theorem kw_542 : (Jvm.Cond.instanceMethod ({ cls := "NextBench$Match", name := "result", desc := "(II)I" } : Jvm.MethodName)) ∈ tbG := tb_3 (i := 62) rfl rfl
theorem kw_543 : (Jvm.Cond.selects "NextBench$Match" ({ cls := "NextBench$Match", name := "result", desc := "(II)I" } : Jvm.MethodName) ({ cls := "NextBench$Match", name := "result", desc := "(II)I" } : Jvm.MethodName)) ∈ tbG := tb_3 (i := 63) rfl rfl
theorem kw_544 : (Jvm.Cond.code ({ cls := "NextBench$Match", name := "result", desc := "(II)I" } : Jvm.MethodName) prog_6_method_4_code (3 : Nat) (Option.some Jvm.ClassFile.FieldType.int)) ∈ tbG := tb_3 (i := 64) rfl rfl
theorem kw_545 : (Jvm.Cond.methodLink "NextBench" (213 : Nat) ({ cls := "NextBench$Match", name := "bestSeat", desc := "(III)I" } : Jvm.MethodName)) ∈ tbG := tb_3 (i := 65) rfl rfl
theorem kw_546 : (Jvm.Cond.instanceMethod ({ cls := "NextBench$Match", name := "bestSeat", desc := "(III)I" } : Jvm.MethodName)) ∈ tbG := tb_3 (i := 66) rfl rfl
theorem kw_547 : (Jvm.Cond.selects "NextBench$Match" ({ cls := "NextBench$Match", name := "bestSeat", desc := "(III)I" } : Jvm.MethodName) ({ cls := "NextBench$Match", name := "bestSeat", desc := "(III)I" } : Jvm.MethodName)) ∈ tbG := tb_3 (i := 67) rfl rfl
theorem kw_548 : (Jvm.Cond.code ({ cls := "NextBench$Match", name := "bestSeat", desc := "(III)I" } : Jvm.MethodName) prog_6_method_5_code (6 : Nat) (Option.some Jvm.ClassFile.FieldType.int)) ∈ tbG := tb_3 (i := 68) rfl rfl
theorem kw_549 : (Jvm.Cond.methodLink "NextBench$Match" (78 : Nat) ({ cls := "NextBench$Match", name := "result", desc := "(II)I" } : Jvm.MethodName)) ∈ tbG := tb_3 (i := 69) rfl rfl
theorem kw_550 : (Jvm.Cond.methodLink "NextBenchLaw" (83 : Nat) ({ cls := "NextBench", name := "pairs", desc := "(I)I" } : Jvm.MethodName)) ∈ tbG := tb_3 (i := 70) rfl rfl
theorem kw_551 : (Jvm.Cond.instanceMethod ({ cls := "NextBench", name := "pairs", desc := "(I)I" } : Jvm.MethodName)) ∈ tbG := tb_3 (i := 71) rfl rfl
theorem kw_552 : (Jvm.Cond.selects "NextBench" ({ cls := "NextBench", name := "pairs", desc := "(I)I" } : Jvm.MethodName) ({ cls := "NextBench", name := "pairs", desc := "(I)I" } : Jvm.MethodName)) ∈ tbG := tb_3 (i := 72) rfl rfl
theorem kw_553 : (Jvm.Cond.code ({ cls := "NextBench", name := "pairs", desc := "(I)I" } : Jvm.MethodName) prog_1_method_18_code (2 : Nat) (Option.some Jvm.ClassFile.FieldType.int)) ∈ tbG := tb_3 (i := 73) rfl rfl
theorem kw_554 : (Jvm.Cond.methodLink "NextBench" (217 : Nat) ({ cls := "NextBench$Couples", name := "list", desc := "(LNextBench$Bench;)V" } : Jvm.MethodName)) ∈ tbG := tb_3 (i := 74) rfl rfl
theorem kw_555 : (Jvm.Cond.instanceMethod ({ cls := "NextBench$Couples", name := "list", desc := "(LNextBench$Bench;)V" } : Jvm.MethodName)) ∈ tbG := tb_3 (i := 75) rfl rfl
theorem kw_556 : (Jvm.Cond.selects "NextBench$Couples" ({ cls := "NextBench$Couples", name := "list", desc := "(LNextBench$Bench;)V" } : Jvm.MethodName) ({ cls := "NextBench$Couples", name := "list", desc := "(LNextBench$Bench;)V" } : Jvm.MethodName)) ∈ tbG := tb_3 (i := 76) rfl rfl
theorem kw_557 : (Jvm.Cond.code ({ cls := "NextBench$Couples", name := "list", desc := "(LNextBench$Bench;)V" } : Jvm.MethodName) prog_4_method_2_code (4 : Nat) (Option.none : Option Jvm.ClassFile.FieldType)) ∈ tbG := tb_3 (i := 77) rfl rfl
theorem kw_558 : (Jvm.Cond.methodLink "NextBench$Couples" (39 : Nat) ({ cls := "NextBench$Bench", name := "farness", desc := "(II)I" } : Jvm.MethodName)) ∈ tbG := tb_3 (i := 78) rfl rfl
theorem kw_559 : (Jvm.Cond.methodLink "NextBench" (220 : Nat) ({ cls := "NextBench$Couples", name := "sitInTurn", desc := "(LNextBench$Sitters;)I" } : Jvm.MethodName)) ∈ tbG := tb_3 (i := 79) rfl rfl
theorem kw_560 : (Jvm.Cond.instanceMethod ({ cls := "NextBench$Couples", name := "sitInTurn", desc := "(LNextBench$Sitters;)I" } : Jvm.MethodName)) ∈ tbG := tb_3 (i := 80) rfl rfl
theorem kw_561 : (Jvm.Cond.selects "NextBench$Couples" ({ cls := "NextBench$Couples", name := "sitInTurn", desc := "(LNextBench$Sitters;)I" } : Jvm.MethodName) ({ cls := "NextBench$Couples", name := "sitInTurn", desc := "(LNextBench$Sitters;)I" } : Jvm.MethodName)) ∈ tbG := tb_3 (i := 81) rfl rfl
theorem kw_562 : (Jvm.Cond.code ({ cls := "NextBench$Couples", name := "sitInTurn", desc := "(LNextBench$Sitters;)I" } : Jvm.MethodName) prog_4_method_3_code (4 : Nat) (Option.some Jvm.ClassFile.FieldType.int)) ∈ tbG := tb_3 (i := 82) rfl rfl
theorem kw_563 : (Jvm.Cond.methodLink "NextBench$Couples" (44 : Nat) ({ cls := "NextBench$Sitters", name := "leave", desc := "()V" } : Jvm.MethodName)) ∈ tbG := tb_3 (i := 83) rfl rfl
theorem kw_564 : (Jvm.Cond.methodLink "NextBench$Couples" (49 : Nat) ({ cls := "NextBench$Sitters", name := "isOpen", desc := "(I)Z" } : Jvm.MethodName)) ∈ tbG := tb_3 (i := 84) rfl rfl
theorem kw_565 : (Jvm.Cond.methodLink "NextBench$Couples" (53 : Nat) ({ cls := "NextBench$Sitters", name := "sit", desc := "(I)V" } : Jvm.MethodName)) ∈ tbG := tb_3 (i := 85) rfl rfl
theorem kw_566 : (Jvm.Cond.methodLink "NextBench" (224 : Nat) ({ cls := "NextBench$Couples", name := "mostAtOnce", desc := "(LNextBench$Sets;)I" } : Jvm.MethodName)) ∈ tbG := tb_3 (i := 86) rfl rfl
theorem kw_567 : (Jvm.Cond.instanceMethod ({ cls := "NextBench$Couples", name := "mostAtOnce", desc := "(LNextBench$Sets;)I" } : Jvm.MethodName)) ∈ tbG := tb_3 (i := 87) rfl rfl
theorem kw_568 : (Jvm.Cond.selects "NextBench$Couples" ({ cls := "NextBench$Couples", name := "mostAtOnce", desc := "(LNextBench$Sets;)I" } : Jvm.MethodName) ({ cls := "NextBench$Couples", name := "mostAtOnce", desc := "(LNextBench$Sets;)I" } : Jvm.MethodName)) ∈ tbG := tb_3 (i := 88) rfl rfl
theorem kw_569 : (Jvm.Cond.code ({ cls := "NextBench$Couples", name := "mostAtOnce", desc := "(LNextBench$Sets;)I" } : Jvm.MethodName) prog_4_method_4_code (5 : Nat) (Option.some Jvm.ClassFile.FieldType.int)) ∈ tbG := tb_3 (i := 89) rfl rfl
theorem kw_570 : (Jvm.Cond.methodLink "NextBench$Couples" (57 : Nat) ({ cls := "NextBench$Sets", name := "list", desc := "([III)V" } : Jvm.MethodName)) ∈ tbG := tb_3 (i := 90) rfl rfl
theorem kw_571 : (Jvm.Cond.methodLink "NextBench$Couples" (63 : Nat) ({ cls := "NextBench$Sets", name := "mostIn", desc := "()I" } : Jvm.MethodName)) ∈ tbG := tb_3 (i := 91) rfl rfl
theorem kw_572 : (Jvm.Cond.instanceMethod ({ cls := "NextBench$Sets", name := "mostIn", desc := "()I" } : Jvm.MethodName)) ∈ tbG := tb_3 (i := 92) rfl rfl
theorem kw_573 : (Jvm.Cond.selects "NextBench$Sets" ({ cls := "NextBench$Sets", name := "mostIn", desc := "()I" } : Jvm.MethodName) ({ cls := "NextBench$Sets", name := "mostIn", desc := "()I" } : Jvm.MethodName)) ∈ tbG := tb_3 (i := 93) rfl rfl
theorem kw_574 : (Jvm.Cond.code ({ cls := "NextBench$Sets", name := "mostIn", desc := "()I" } : Jvm.MethodName) prog_10_method_3_code (3 : Nat) (Option.some Jvm.ClassFile.FieldType.int)) ∈ tbG := tb_3 (i := 94) rfl rfl
theorem kw_575 : (Jvm.Cond.methodLink "NextBench$Sets" (34 : Nat) ({ cls := "java/lang/Math", name := "max", desc := "(II)I" } : Jvm.MethodName)) ∈ tbG := tb_3 (i := 95) rfl rfl
theorem kw_576 : (Jvm.Cond.methodLink "NextBenchLaw" (87 : Nat) ({ cls := "NextBench", name := "late", desc := "(II)I" } : Jvm.MethodName)) ∈ tbG := tb_3 (i := 96) rfl rfl
theorem kw_577 : (Jvm.Cond.instanceMethod ({ cls := "NextBench", name := "late", desc := "(II)I" } : Jvm.MethodName)) ∈ tbG := tb_3 (i := 97) rfl rfl
theorem kw_578 : (Jvm.Cond.selects "NextBench" ({ cls := "NextBench", name := "late", desc := "(II)I" } : Jvm.MethodName) ({ cls := "NextBench", name := "late", desc := "(II)I" } : Jvm.MethodName)) ∈ tbG := tb_3 (i := 98) rfl rfl
theorem kw_579 : (Jvm.Cond.code ({ cls := "NextBench", name := "late", desc := "(II)I" } : Jvm.MethodName) prog_1_method_19_code (4 : Nat) (Option.some Jvm.ClassFile.FieldType.int)) ∈ tbG := tb_3 (i := 99) rfl rfl
theorem kw_580 : (Jvm.Cond.methodLink "NextBenchLaw" (91 : Nat) ({ cls := "NextBench", name := "rows", desc := "(II)I" } : Jvm.MethodName)) ∈ tbG := tb_3 (i := 100) rfl rfl
theorem kw_581 : (Jvm.Cond.instanceMethod ({ cls := "NextBench", name := "rows", desc := "(II)I" } : Jvm.MethodName)) ∈ tbG := tb_3 (i := 101) rfl rfl
theorem kw_582 : (Jvm.Cond.selects "NextBench" ({ cls := "NextBench", name := "rows", desc := "(II)I" } : Jvm.MethodName) ({ cls := "NextBench", name := "rows", desc := "(II)I" } : Jvm.MethodName)) ∈ tbG := tb_3 (i := 102) rfl rfl
theorem kw_583 : (Jvm.Cond.code ({ cls := "NextBench", name := "rows", desc := "(II)I" } : Jvm.MethodName) prog_1_method_20_code (3 : Nat) (Option.some Jvm.ClassFile.FieldType.int)) ∈ tbG := tb_3 (i := 103) rfl rfl
theorem kw_584 : (Jvm.Cond.methodLink "NextBench" (235 : Nat) ({ cls := "NextBench$LongRows", name := "comeIn", desc := "(II)I" } : Jvm.MethodName)) ∈ tbG := tb_3 (i := 104) rfl rfl
theorem kw_585 : (Jvm.Cond.instanceMethod ({ cls := "NextBench$LongRows", name := "comeIn", desc := "(II)I" } : Jvm.MethodName)) ∈ tbG := tb_3 (i := 105) rfl rfl
theorem kw_586 : (Jvm.Cond.selects "NextBench$LongRows" ({ cls := "NextBench$LongRows", name := "comeIn", desc := "(II)I" } : Jvm.MethodName) ({ cls := "NextBench$LongRows", name := "comeIn", desc := "(II)I" } : Jvm.MethodName)) ∈ tbG := tb_3 (i := 106) rfl rfl
theorem kw_587 : (Jvm.Cond.code ({ cls := "NextBench$LongRows", name := "comeIn", desc := "(II)I" } : Jvm.MethodName) prog_5_method_2_code (3 : Nat) (Option.some Jvm.ClassFile.FieldType.int)) ∈ tbG := tb_3 (i := 107) rfl rfl
theorem kw_588 : (Jvm.Cond.methodLink "NextBench$LongRows" (15 : Nat) ({ cls := "NextBench$LongRows", name := "beyond", desc := "(I)I" } : Jvm.MethodName)) ∈ tbG := tb_3 (i := 108) rfl rfl
theorem kw_590 : (Jvm.Cond.instanceMethod ({ cls := "NextBench$LongRows", name := "beyond", desc := "(I)I" } : Jvm.MethodName)) ∈ tbG := tb_3 (i := 110) rfl rfl
theorem kw_591 : (Jvm.Cond.code ({ cls := "NextBench$LongRows", name := "beyond", desc := "(I)I" } : Jvm.MethodName) prog_5_method_3_code (2 : Nat) (Option.some Jvm.ClassFile.FieldType.int)) ∈ tbG := tb_3 (i := 111) rfl rfl
theorem kw_592 : (Jvm.Cond.methodLink "NextBenchLaw" (95 : Nat) ({ cls := "NextBench", name := "longer", desc := "(I)I" } : Jvm.MethodName)) ∈ tbG := tb_3 (i := 112) rfl rfl
theorem kw_593 : (Jvm.Cond.instanceMethod ({ cls := "NextBench", name := "longer", desc := "(I)I" } : Jvm.MethodName)) ∈ tbG := tb_3 (i := 113) rfl rfl
theorem kw_594 : (Jvm.Cond.selects "NextBench" ({ cls := "NextBench", name := "longer", desc := "(I)I" } : Jvm.MethodName) ({ cls := "NextBench", name := "longer", desc := "(I)I" } : Jvm.MethodName)) ∈ tbG := tb_3 (i := 114) rfl rfl
theorem kw_595 : (Jvm.Cond.code ({ cls := "NextBench", name := "longer", desc := "(I)I" } : Jvm.MethodName) prog_1_method_21_code (3 : Nat) (Option.some Jvm.ClassFile.FieldType.int)) ∈ tbG := tb_3 (i := 115) rfl rfl
theorem kw_596 : (Jvm.Cond.methodLink "NextBenchLaw" (99 : Nat) ({ cls := "NextBench", name := "arms", desc := "(III)I" } : Jvm.MethodName)) ∈ tbG := tb_3 (i := 116) rfl rfl
theorem kw_597 : (Jvm.Cond.instanceMethod ({ cls := "NextBench", name := "arms", desc := "(III)I" } : Jvm.MethodName)) ∈ tbG := tb_3 (i := 117) rfl rfl
theorem kw_598 : (Jvm.Cond.selects "NextBench" ({ cls := "NextBench", name := "arms", desc := "(III)I" } : Jvm.MethodName) ({ cls := "NextBench", name := "arms", desc := "(III)I" } : Jvm.MethodName)) ∈ tbG := tb_3 (i := 118) rfl rfl
theorem kw_599 : (Jvm.Cond.code ({ cls := "NextBench", name := "arms", desc := "(III)I" } : Jvm.MethodName) prog_1_method_22_code (5 : Nat) (Option.some Jvm.ClassFile.FieldType.int)) ∈ tbG := tb_3 (i := 119) rfl rfl
theorem kw_600 : (Jvm.Cond.methodLink "NextBench" (238 : Nat) ({ cls := "NextBench", name := "bestPlaces", desc := "(II)I" } : Jvm.MethodName)) ∈ tbG := tb_3 (i := 120) rfl rfl
theorem kw_602 : (Jvm.Cond.instanceMethod ({ cls := "NextBench", name := "bestPlaces", desc := "(II)I" } : Jvm.MethodName)) ∈ tbG := tb_3 (i := 122) rfl rfl
theorem kw_603 : (Jvm.Cond.code ({ cls := "NextBench", name := "bestPlaces", desc := "(II)I" } : Jvm.MethodName) prog_1_method_42_code (12 : Nat) (Option.some Jvm.ClassFile.FieldType.int)) ∈ tbG := tb_3 (i := 123) rfl rfl
theorem kw_604 : (Jvm.Cond.methodLink "NextBench" (302 : Nat) ({ cls := "NextBench", name := "worthOfArms", desc := "(II)J" } : Jvm.MethodName)) ∈ tbG := tb_3 (i := 124) rfl rfl
theorem kw_606 : (Jvm.Cond.instanceMethod ({ cls := "NextBench", name := "worthOfArms", desc := "(II)J" } : Jvm.MethodName)) ∈ tbG := tb_3 (i := 126) rfl rfl
theorem kw_607 : (Jvm.Cond.code ({ cls := "NextBench", name := "worthOfArms", desc := "(II)J" } : Jvm.MethodName) prog_1_method_43_code (3 : Nat) (Option.some Jvm.ClassFile.FieldType.long)) ∈ tbG := tb_3 (i := 127) rfl rfl
theorem kw_608 : (Jvm.Cond.methodLink "NextBench" (241 : Nat) ({ cls := "NextBench", name := "comeInWithArms", desc := "(II)I" } : Jvm.MethodName)) ∈ tbG := tb_3 (i := 128) rfl rfl
theorem kw_610 : (Jvm.Cond.instanceMethod ({ cls := "NextBench", name := "comeInWithArms", desc := "(II)I" } : Jvm.MethodName)) ∈ tbG := tb_3 (i := 130) rfl rfl
theorem kw_611 : (Jvm.Cond.code ({ cls := "NextBench", name := "comeInWithArms", desc := "(II)I" } : Jvm.MethodName) prog_1_method_44_code (3 : Nat) (Option.some Jvm.ClassFile.FieldType.int)) ∈ tbG := tb_3 (i := 131) rfl rfl
theorem kw_612 : (Jvm.Cond.methodLink "NextBench" (309 : Nat) ({ cls := "NextBench$Sets", name := "sumOfSitters", desc := "(LNextBench$Bench;)J" } : Jvm.MethodName)) ∈ tbG := tb_3 (i := 132) rfl rfl
theorem kw_613 : (Jvm.Cond.instanceMethod ({ cls := "NextBench$Sets", name := "sumOfSitters", desc := "(LNextBench$Bench;)J" } : Jvm.MethodName)) ∈ tbG := tb_3 (i := 133) rfl rfl
theorem kw_614 : (Jvm.Cond.selects "NextBench$Sets" ({ cls := "NextBench$Sets", name := "sumOfSitters", desc := "(LNextBench$Bench;)J" } : Jvm.MethodName) ({ cls := "NextBench$Sets", name := "sumOfSitters", desc := "(LNextBench$Bench;)J" } : Jvm.MethodName)) ∈ tbG := tb_3 (i := 134) rfl rfl
theorem kw_615 : (Jvm.Cond.code ({ cls := "NextBench$Sets", name := "sumOfSitters", desc := "(LNextBench$Bench;)J" } : Jvm.MethodName) prog_10_method_5_code (7 : Nat) (Option.some Jvm.ClassFile.FieldType.long)) ∈ tbG := tb_3 (i := 135) rfl rfl
theorem kw_616 : (Jvm.Cond.methodLink "NextBench$Sets" (47 : Nat) ({ cls := "NextBench$Scene", name := "allSeats", desc := "()I" } : Jvm.MethodName)) ∈ tbG := tb_3 (i := 136) rfl rfl
theorem kw_617 : (Jvm.Cond.methodLink "NextBench$Sets" (56 : Nat) ({ cls := "NextBench$Sets", name := "groupOf", desc := "(LNextBench$Bench;I)I" } : Jvm.MethodName)) ∈ tbG := tb_3 (i := 137) rfl rfl
theorem kw_618 : (Jvm.Cond.static ({ cls := "NextBench$Sets", name := "groupOf", desc := "(LNextBench$Bench;I)I" } : Jvm.MethodName)) ∈ tbG := tb_3 (i := 138) rfl rfl
theorem kw_619 : (Jvm.Cond.code ({ cls := "NextBench$Sets", name := "groupOf", desc := "(LNextBench$Bench;I)I" } : Jvm.MethodName) prog_10_method_7_code (6 : Nat) (Option.some Jvm.ClassFile.FieldType.int)) ∈ tbG := tb_3 (i := 139) rfl rfl
theorem kw_620 : (Jvm.Cond.methodLink "NextBench$Sets" (60 : Nat) ({ cls := "NextBench$Sets", name := "sumWithin", desc := "(LNextBench$Bench;I)J" } : Jvm.MethodName)) ∈ tbG := tb_3 (i := 140) rfl rfl
theorem kw_622 : (Jvm.Cond.instanceMethod ({ cls := "NextBench$Sets", name := "sumWithin", desc := "(LNextBench$Bench;I)J" } : Jvm.MethodName)) ∈ tbG := tb_3 (i := 142) rfl rfl
theorem kw_623 : (Jvm.Cond.code ({ cls := "NextBench$Sets", name := "sumWithin", desc := "(LNextBench$Bench;I)J" } : Jvm.MethodName) prog_10_method_6_code (6 : Nat) (Option.some Jvm.ClassFile.FieldType.long)) ∈ tbG := tb_3 (i := 143) rfl rfl
theorem kw_624 : (Jvm.Cond.methodLink "NextBench$Sets" (67 : Nat) ({ cls := "NextBench$Sets", name := "list", desc := "([III)V" } : Jvm.MethodName)) ∈ tbG := tb_3 (i := 144) rfl rfl
theorem kw_625 : (Jvm.Cond.methodLink "NextBench$Sets" (71 : Nat) ({ cls := "NextBench$Sets", name := "spreadChances", desc := "()V" } : Jvm.MethodName)) ∈ tbG := tb_3 (i := 145) rfl rfl
theorem kw_626 : (Jvm.Cond.methodLink "NextBench" (306 : Nat) ({ cls := "NextBench$Scene", name := "cutPlaces", desc := "()I" } : Jvm.MethodName)) ∈ tbG := tb_3 (i := 146) rfl rfl
theorem kw_627 : (Jvm.Cond.instanceMethod ({ cls := "NextBench$Scene", name := "cutPlaces", desc := "()I" } : Jvm.MethodName)) ∈ tbG := tb_3 (i := 147) rfl rfl
theorem kw_628 : (Jvm.Cond.selects "NextBench$Scene" ({ cls := "NextBench$Scene", name := "cutPlaces", desc := "()I" } : Jvm.MethodName) ({ cls := "NextBench$Scene", name := "cutPlaces", desc := "()I" } : Jvm.MethodName)) ∈ tbG := tb_3 (i := 148) rfl rfl
theorem kw_629 : (Jvm.Cond.code ({ cls := "NextBench$Scene", name := "cutPlaces", desc := "()I" } : Jvm.MethodName) prog_9_method_4_code (3 : Nat) (Option.some Jvm.ClassFile.FieldType.int)) ∈ tbG := tb_3 (i := 149) rfl rfl
theorem kw_630 : (Jvm.Cond.methodLink "NextBenchLaw" (103 : Nat) ({ cls := "NextBench", name := "rests", desc := "(I)I" } : Jvm.MethodName)) ∈ tbG := tb_3 (i := 150) rfl rfl
theorem kw_631 : (Jvm.Cond.instanceMethod ({ cls := "NextBench", name := "rests", desc := "(I)I" } : Jvm.MethodName)) ∈ tbG := tb_3 (i := 151) rfl rfl
theorem kw_632 : (Jvm.Cond.selects "NextBench" ({ cls := "NextBench", name := "rests", desc := "(I)I" } : Jvm.MethodName) ({ cls := "NextBench", name := "rests", desc := "(I)I" } : Jvm.MethodName)) ∈ tbG := tb_3 (i := 152) rfl rfl
theorem kw_633 : (Jvm.Cond.code ({ cls := "NextBench", name := "rests", desc := "(I)I" } : Jvm.MethodName) prog_1_method_23_code (2 : Nat) (Option.some Jvm.ClassFile.FieldType.int)) ∈ tbG := tb_3 (i := 153) rfl rfl
theorem kw_634 : (Jvm.Cond.methodLink "NextBenchLaw" (107 : Nat) ({ cls := "NextBench", name := "minutes", desc := "(IIIII)J" } : Jvm.MethodName)) ∈ tbG := tb_3 (i := 154) rfl rfl
theorem kw_635 : (Jvm.Cond.instanceMethod ({ cls := "NextBench", name := "minutes", desc := "(IIIII)J" } : Jvm.MethodName)) ∈ tbG := tb_3 (i := 155) rfl rfl
theorem kw_636 : (Jvm.Cond.selects "NextBench" ({ cls := "NextBench", name := "minutes", desc := "(IIIII)J" } : Jvm.MethodName) ({ cls := "NextBench", name := "minutes", desc := "(IIIII)J" } : Jvm.MethodName)) ∈ tbG := tb_3 (i := 156) rfl rfl
theorem kw_637 : (Jvm.Cond.code ({ cls := "NextBench", name := "minutes", desc := "(IIIII)J" } : Jvm.MethodName) prog_1_method_24_code (7 : Nat) (Option.some Jvm.ClassFile.FieldType.long)) ∈ tbG := tb_3 (i := 157) rfl rfl
theorem kw_638 : (Jvm.Cond.methodLink "NextBench" (244 : Nat) ({ cls := "NextBench", name := "letPass", desc := "(IIII)I" } : Jvm.MethodName)) ∈ tbG := tb_3 (i := 158) rfl rfl
theorem kw_640 : (Jvm.Cond.instanceMethod ({ cls := "NextBench", name := "letPass", desc := "(IIII)I" } : Jvm.MethodName)) ∈ tbG := tb_3 (i := 160) rfl rfl
theorem kw_641 : (Jvm.Cond.code ({ cls := "NextBench", name := "letPass", desc := "(IIII)I" } : Jvm.MethodName) prog_1_method_45_code (6 : Nat) (Option.some Jvm.ClassFile.FieldType.int)) ∈ tbG := tb_3 (i := 161) rfl rfl
theorem kw_642 : (Jvm.Cond.methodLink "NextBench" (312 : Nat) ({ cls := "NextBench$Passing", name := "start", desc := "(III)V" } : Jvm.MethodName)) ∈ tbG := tb_3 (i := 162) rfl rfl
theorem kw_643 : (Jvm.Cond.instanceMethod ({ cls := "NextBench$Passing", name := "start", desc := "(III)V" } : Jvm.MethodName)) ∈ tbG := tb_3 (i := 163) rfl rfl
theorem kw_644 : (Jvm.Cond.selects "NextBench$Passing" ({ cls := "NextBench$Passing", name := "start", desc := "(III)V" } : Jvm.MethodName) ({ cls := "NextBench$Passing", name := "start", desc := "(III)V" } : Jvm.MethodName)) ∈ tbG := tb_3 (i := 164) rfl rfl
theorem kw_645 : (Jvm.Cond.code ({ cls := "NextBench$Passing", name := "start", desc := "(III)V" } : Jvm.MethodName) prog_8_method_2_code (5 : Nat) (Option.none : Option Jvm.ClassFile.FieldType)) ∈ tbG := tb_3 (i := 165) rfl rfl
theorem kw_646 : (Jvm.Cond.methodLink "NextBench$Passing" (19 : Nat) ({ cls := "java/util/Arrays", name := "fill", desc := "([JJ)V" } : Jvm.MethodName)) ∈ tbG := tb_3 (i := 166) rfl rfl
theorem kw_647 : (Jvm.Cond.constantLong "NextBench$Passing" (36 : Nat) (55440 : Int64)) ∈ tbG := tb_3 (i := 167) rfl rfl
theorem kw_648 : (Jvm.Cond.methodLink "NextBench$Passing" (38 : Nat) ({ cls := "NextBench$Passing", name := "go", desc := "(IIJ)V" } : Jvm.MethodName)) ∈ tbG := tb_3 (i := 168) rfl rfl
theorem kw_650 : (Jvm.Cond.instanceMethod ({ cls := "NextBench$Passing", name := "go", desc := "(IIJ)V" } : Jvm.MethodName)) ∈ tbG := tb_3 (i := 170) rfl rfl
theorem kw_651 : (Jvm.Cond.code ({ cls := "NextBench$Passing", name := "go", desc := "(IIJ)V" } : Jvm.MethodName) prog_8_method_3_code (5 : Nat) (Option.none : Option Jvm.ClassFile.FieldType)) ∈ tbG := tb_3 (i := 171) rfl rfl
theorem kw_652 : (Jvm.Cond.methodLink "NextBench$Passing" (42 : Nat) ({ cls := "java/lang/Integer", name := "bitCount", desc := "(I)I" } : Jvm.MethodName)) ∈ tbG := tb_3 (i := 172) rfl rfl
theorem kw_653 : (Jvm.Cond.constantLong "NextBench$Passing" (48 : Nat) (2 : Int64)) ∈ tbG := tb_3 (i := 173) rfl rfl
theorem kw_654 : (Jvm.Cond.methodLink "NextBench$Passing" (50 : Nat) ({ cls := "NextBench$Passing", name := "oneComes", desc := "(IIJ)V" } : Jvm.MethodName)) ∈ tbG := tb_3 (i := 174) rfl rfl
theorem kw_656 : (Jvm.Cond.instanceMethod ({ cls := "NextBench$Passing", name := "oneComes", desc := "(IIJ)V" } : Jvm.MethodName)) ∈ tbG := tb_3 (i := 176) rfl rfl
theorem kw_657 : (Jvm.Cond.code ({ cls := "NextBench$Passing", name := "oneComes", desc := "(IIJ)V" } : Jvm.MethodName) prog_8_method_4_code (6 : Nat) (Option.none : Option Jvm.ClassFile.FieldType)) ∈ tbG := tb_3 (i := 177) rfl rfl
theorem kw_658 : (Jvm.Cond.methodLink "NextBench$Passing" (56 : Nat) ({ cls := "NextBench$Sitters", name := "seatSet", desc := "(I)Z" } : Jvm.MethodName)) ∈ tbG := tb_3 (i := 178) rfl rfl
theorem kw_659 : (Jvm.Cond.methodLink "NextBench$Passing" (62 : Nat) ({ cls := "NextBench$Sitters", name := "choice", desc := "(I)I" } : Jvm.MethodName)) ∈ tbG := tb_3 (i := 179) rfl rfl
theorem kw_660 : (Jvm.Cond.methodLink "NextBench$Passing" (53 : Nat) ({ cls := "NextBench$Passing", name := "oneGoes", desc := "(IIJ)V" } : Jvm.MethodName)) ∈ tbG := tb_3 (i := 180) rfl rfl
theorem kw_662 : (Jvm.Cond.instanceMethod ({ cls := "NextBench$Passing", name := "oneGoes", desc := "(IIJ)V" } : Jvm.MethodName)) ∈ tbG := tb_3 (i := 182) rfl rfl
theorem kw_663 : (Jvm.Cond.code ({ cls := "NextBench$Passing", name := "oneGoes", desc := "(IIJ)V" } : Jvm.MethodName) prog_8_method_5_code (7 : Nat) (Option.none : Option Jvm.ClassFile.FieldType)) ∈ tbG := tb_3 (i := 183) rfl rfl
theorem kw_664 : (Jvm.Cond.constantLong "NextBench" (248 : Nat) (-1000000000000000000 : Int64)) ∈ tbG := tb_3 (i := 184) rfl rfl
theorem kw_665 : (Jvm.Cond.methodLink "NextBenchLaw" (112 : Nat) ({ cls := "NextBench", name := "away", desc := "(IIII)J" } : Jvm.MethodName)) ∈ tbG := tb_3 (i := 185) rfl rfl
theorem kw_666 : (Jvm.Cond.instanceMethod ({ cls := "NextBench", name := "away", desc := "(IIII)J" } : Jvm.MethodName)) ∈ tbG := tb_3 (i := 186) rfl rfl
theorem kw_667 : (Jvm.Cond.selects "NextBench" ({ cls := "NextBench", name := "away", desc := "(IIII)J" } : Jvm.MethodName) ({ cls := "NextBench", name := "away", desc := "(IIII)J" } : Jvm.MethodName)) ∈ tbG := tb_3 (i := 187) rfl rfl
theorem kw_668 : (Jvm.Cond.code ({ cls := "NextBench", name := "away", desc := "(IIII)J" } : Jvm.MethodName) prog_1_method_25_code (6 : Nat) (Option.some Jvm.ClassFile.FieldType.long)) ∈ tbG := tb_3 (i := 188) rfl rfl
theorem kw_669 : (Jvm.Cond.methodLink "NextBenchLaw" (117 : Nat) ({ cls := "NextBench", name := "come", desc := "(I)I" } : Jvm.MethodName)) ∈ tbG := tb_3 (i := 189) rfl rfl
theorem kw_670 : (Jvm.Cond.instanceMethod ({ cls := "NextBench", name := "come", desc := "(I)I" } : Jvm.MethodName)) ∈ tbG := tb_3 (i := 190) rfl rfl
theorem kw_671 : (Jvm.Cond.selects "NextBench" ({ cls := "NextBench", name := "come", desc := "(I)I" } : Jvm.MethodName) ({ cls := "NextBench", name := "come", desc := "(I)I" } : Jvm.MethodName)) ∈ tbG := tb_3 (i := 191) rfl rfl
theorem kw_672 : (Jvm.Cond.code ({ cls := "NextBench", name := "come", desc := "(I)I" } : Jvm.MethodName) prog_1_method_26_code (2 : Nat) (Option.some Jvm.ClassFile.FieldType.int)) ∈ tbG := tb_3 (i := 192) rfl rfl
theorem kw_673 : (Jvm.Cond.methodLink "NextBenchLaw" (121 : Nat) ({ cls := "NextBench", name := "forget", desc := "()I" } : Jvm.MethodName)) ∈ tbG := tb_3 (i := 193) rfl rfl
theorem kw_674 : (Jvm.Cond.instanceMethod ({ cls := "NextBench", name := "forget", desc := "()I" } : Jvm.MethodName)) ∈ tbG := tb_3 (i := 194) rfl rfl
theorem kw_675 : (Jvm.Cond.selects "NextBench" ({ cls := "NextBench", name := "forget", desc := "()I" } : Jvm.MethodName) ({ cls := "NextBench", name := "forget", desc := "()I" } : Jvm.MethodName)) ∈ tbG := tb_3 (i := 195) rfl rfl
theorem kw_676 : (Jvm.Cond.code ({ cls := "NextBench", name := "forget", desc := "()I" } : Jvm.MethodName) prog_1_method_27_code (2 : Nat) (Option.some Jvm.ClassFile.FieldType.int)) ∈ tbG := tb_3 (i := 196) rfl rfl
theorem kw_677 : (Jvm.Cond.methodLink "NextBenchLaw" (125 : Nat) ({ cls := "NextBench", name := "sits", desc := "(I)I" } : Jvm.MethodName)) ∈ tbG := tb_3 (i := 197) rfl rfl
theorem kw_678 : (Jvm.Cond.instanceMethod ({ cls := "NextBench", name := "sits", desc := "(I)I" } : Jvm.MethodName)) ∈ tbG := tb_3 (i := 198) rfl rfl
theorem kw_679 : (Jvm.Cond.selects "NextBench" ({ cls := "NextBench", name := "sits", desc := "(I)I" } : Jvm.MethodName) ({ cls := "NextBench", name := "sits", desc := "(I)I" } : Jvm.MethodName)) ∈ tbG := tb_3 (i := 199) rfl rfl
theorem kw_680 : (Jvm.Cond.code ({ cls := "NextBench", name := "sits", desc := "(I)I" } : Jvm.MethodName) prog_1_method_28_code (4 : Nat) (Option.some Jvm.ClassFile.FieldType.int)) ∈ tbG := tb_3 (i := 200) rfl rfl
theorem kw_681 : (Jvm.Cond.methodLink "NextBenchLaw" (129 : Nat) ({ cls := "NextBench", name := "begin", desc := "()I" } : Jvm.MethodName)) ∈ tbG := tb_3 (i := 201) rfl rfl
theorem kw_682 : (Jvm.Cond.instanceMethod ({ cls := "NextBench", name := "begin", desc := "()I" } : Jvm.MethodName)) ∈ tbG := tb_3 (i := 202) rfl rfl
theorem kw_683 : (Jvm.Cond.selects "NextBench" ({ cls := "NextBench", name := "begin", desc := "()I" } : Jvm.MethodName) ({ cls := "NextBench", name := "begin", desc := "()I" } : Jvm.MethodName)) ∈ tbG := tb_3 (i := 203) rfl rfl
theorem kw_684 : (Jvm.Cond.code ({ cls := "NextBench", name := "begin", desc := "()I" } : Jvm.MethodName) prog_1_method_29_code (1 : Nat) (Option.some Jvm.ClassFile.FieldType.int)) ∈ tbG := tb_3 (i := 204) rfl rfl
theorem kw_685 : (Jvm.Cond.methodLink "NextBenchLaw" (133 : Nat) ({ cls := "NextBench", name := "see", desc := "(I)I" } : Jvm.MethodName)) ∈ tbG := tb_3 (i := 205) rfl rfl
theorem kw_686 : (Jvm.Cond.instanceMethod ({ cls := "NextBench", name := "see", desc := "(I)I" } : Jvm.MethodName)) ∈ tbG := tb_3 (i := 206) rfl rfl
theorem kw_687 : (Jvm.Cond.selects "NextBench" ({ cls := "NextBench", name := "see", desc := "(I)I" } : Jvm.MethodName) ({ cls := "NextBench", name := "see", desc := "(I)I" } : Jvm.MethodName)) ∈ tbG := tb_3 (i := 207) rfl rfl
theorem kw_688 : (Jvm.Cond.code ({ cls := "NextBench", name := "see", desc := "(I)I" } : Jvm.MethodName) prog_1_method_30_code (3 : Nat) (Option.some Jvm.ClassFile.FieldType.int)) ∈ tbG := tb_3 (i := 208) rfl rfl
theorem kw_689 : (Jvm.Cond.methodLink "NextBench" (272 : Nat) ({ cls := "NextBench", name := "seatSeenRow", desc := "(I)V" } : Jvm.MethodName)) ∈ tbG := tb_3 (i := 209) rfl rfl
theorem kw_691 : (Jvm.Cond.instanceMethod ({ cls := "NextBench", name := "seatSeenRow", desc := "(I)V" } : Jvm.MethodName)) ∈ tbG := tb_3 (i := 211) rfl rfl
theorem kw_692 : (Jvm.Cond.code ({ cls := "NextBench", name := "seatSeenRow", desc := "(I)V" } : Jvm.MethodName) prog_1_method_46_code (3 : Nat) (Option.none : Option Jvm.ClassFile.FieldType)) ∈ tbG := tb_3 (i := 212) rfl rfl
theorem kw_693 : (Jvm.Cond.methodLink "NextBench" (316 : Nat) ({ cls := "NextBench$Scene", name := "seenSeat", desc := "(II)I" } : Jvm.MethodName)) ∈ tbG := tb_3 (i := 213) rfl rfl
theorem kw_694 : (Jvm.Cond.instanceMethod ({ cls := "NextBench$Scene", name := "seenSeat", desc := "(II)I" } : Jvm.MethodName)) ∈ tbG := tb_3 (i := 214) rfl rfl
theorem kw_695 : (Jvm.Cond.selects "NextBench$Scene" ({ cls := "NextBench$Scene", name := "seenSeat", desc := "(II)I" } : Jvm.MethodName) ({ cls := "NextBench$Scene", name := "seenSeat", desc := "(II)I" } : Jvm.MethodName)) ∈ tbG := tb_3 (i := 215) rfl rfl
theorem kw_696 : (Jvm.Cond.code ({ cls := "NextBench$Scene", name := "seenSeat", desc := "(II)I" } : Jvm.MethodName) prog_9_method_5_code (3 : Nat) (Option.some Jvm.ClassFile.FieldType.int)) ∈ tbG := tb_3 (i := 216) rfl rfl
theorem kw_697 : (Jvm.Cond.methodLink "NextBench" (275 : Nat) ({ cls := "NextBench$Sitters", name := "isOpen", desc := "(I)Z" } : Jvm.MethodName)) ∈ tbG := tb_3 (i := 217) rfl rfl
theorem kw_698 : (Jvm.Cond.methodLink "NextBench" (278 : Nat) ({ cls := "NextBench$Scene", name := "noteSeen", desc := "(II)Z" } : Jvm.MethodName)) ∈ tbG := tb_3 (i := 218) rfl rfl
theorem kw_699 : (Jvm.Cond.instanceMethod ({ cls := "NextBench$Scene", name := "noteSeen", desc := "(II)Z" } : Jvm.MethodName)) ∈ tbG := tb_3 (i := 219) rfl rfl
theorem kw_700 : (Jvm.Cond.selects "NextBench$Scene" ({ cls := "NextBench$Scene", name := "noteSeen", desc := "(II)Z" } : Jvm.MethodName) ({ cls := "NextBench$Scene", name := "noteSeen", desc := "(II)Z" } : Jvm.MethodName)) ∈ tbG := tb_3 (i := 220) rfl rfl
theorem kw_701 : (Jvm.Cond.code ({ cls := "NextBench$Scene", name := "noteSeen", desc := "(II)Z" } : Jvm.MethodName) prog_9_method_6_code (4 : Nat) (Option.some Jvm.ClassFile.FieldType.boolean)) ∈ tbG := tb_3 (i := 221) rfl rfl
theorem kw_702 : (Jvm.Cond.methodLink "NextBenchLaw" (137 : Nat) ({ cls := "NextBench", name := "fits", desc := "()I" } : Jvm.MethodName)) ∈ tbG := tb_3 (i := 222) rfl rfl
theorem kw_703 : (Jvm.Cond.instanceMethod ({ cls := "NextBench", name := "fits", desc := "()I" } : Jvm.MethodName)) ∈ tbG := tb_3 (i := 223) rfl rfl
theorem kw_704 : (Jvm.Cond.selects "NextBench" ({ cls := "NextBench", name := "fits", desc := "()I" } : Jvm.MethodName) ({ cls := "NextBench", name := "fits", desc := "()I" } : Jvm.MethodName)) ∈ tbG := tb_3 (i := 224) rfl rfl
theorem kw_705 : (Jvm.Cond.code ({ cls := "NextBench", name := "fits", desc := "()I" } : Jvm.MethodName) prog_1_method_31_code (3 : Nat) (Option.some Jvm.ClassFile.FieldType.int)) ∈ tbG := tb_3 (i := 225) rfl rfl
theorem kw_706 : (Jvm.Cond.methodLink "NextBench" (282 : Nat) ({ cls := "NextBench", name := "firstMisfit", desc := "(I)I" } : Jvm.MethodName)) ∈ tbG := tb_3 (i := 226) rfl rfl
theorem kw_708 : (Jvm.Cond.instanceMethod ({ cls := "NextBench", name := "firstMisfit", desc := "(I)I" } : Jvm.MethodName)) ∈ tbG := tb_3 (i := 228) rfl rfl
theorem kw_709 : (Jvm.Cond.code ({ cls := "NextBench", name := "firstMisfit", desc := "(I)I" } : Jvm.MethodName) prog_1_method_47_code (5 : Nat) (Option.some Jvm.ClassFile.FieldType.int)) ∈ tbG := tb_3 (i := 229) rfl rfl
theorem kw_710 : (Jvm.Cond.methodLink "NextBenchLaw" (141 : Nat) ({ cls := "NextBench", name := "judge", desc := "(I)I" } : Jvm.MethodName)) ∈ tbG := tb_3 (i := 230) rfl rfl
theorem kw_711 : (Jvm.Cond.instanceMethod ({ cls := "NextBench", name := "judge", desc := "(I)I" } : Jvm.MethodName)) ∈ tbG := tb_3 (i := 231) rfl rfl
theorem kw_712 : (Jvm.Cond.selects "NextBench" ({ cls := "NextBench", name := "judge", desc := "(I)I" } : Jvm.MethodName) ({ cls := "NextBench", name := "judge", desc := "(I)I" } : Jvm.MethodName)) ∈ tbG := tb_3 (i := 232) rfl rfl
theorem kw_713 : (Jvm.Cond.code ({ cls := "NextBench", name := "judge", desc := "(I)I" } : Jvm.MethodName) prog_1_method_32_code (2 : Nat) (Option.some Jvm.ClassFile.FieldType.int)) ∈ tbG := tb_3 (i := 233) rfl rfl
theorem kw_714 : (Jvm.Cond.methodLink "NextBenchLaw" (145 : Nat) ({ cls := "NextBench", name := "image", desc := "(I)I" } : Jvm.MethodName)) ∈ tbG := tb_3 (i := 234) rfl rfl
theorem kw_715 : (Jvm.Cond.instanceMethod ({ cls := "NextBench", name := "image", desc := "(I)I" } : Jvm.MethodName)) ∈ tbG := tb_3 (i := 235) rfl rfl
theorem kw_716 : (Jvm.Cond.selects "NextBench" ({ cls := "NextBench", name := "image", desc := "(I)I" } : Jvm.MethodName) ({ cls := "NextBench", name := "image", desc := "(I)I" } : Jvm.MethodName)) ∈ tbG := tb_3 (i := 236) rfl rfl
theorem kw_717 : (Jvm.Cond.code ({ cls := "NextBench", name := "image", desc := "(I)I" } : Jvm.MethodName) prog_1_method_33_code (2 : Nat) (Option.some Jvm.ClassFile.FieldType.int)) ∈ tbG := tb_3 (i := 237) rfl rfl
theorem kw_718 : (Jvm.Cond.methodLink "NextBench" (285 : Nat) ({ cls := "NextBench$Scene", name := "copyFrom", desc := "(LNextBench$Scene;)V" } : Jvm.MethodName)) ∈ tbG := tb_3 (i := 238) rfl rfl
theorem kw_719 : (Jvm.Cond.instanceMethod ({ cls := "NextBench$Scene", name := "copyFrom", desc := "(LNextBench$Scene;)V" } : Jvm.MethodName)) ∈ tbG := tb_3 (i := 239) rfl rfl
theorem kw_720 : (Jvm.Cond.selects "NextBench$Scene" ({ cls := "NextBench$Scene", name := "copyFrom", desc := "(LNextBench$Scene;)V" } : Jvm.MethodName) ({ cls := "NextBench$Scene", name := "copyFrom", desc := "(LNextBench$Scene;)V" } : Jvm.MethodName)) ∈ tbG := tb_4 (i := 0) rfl rfl
theorem kw_721 : (Jvm.Cond.code ({ cls := "NextBench$Scene", name := "copyFrom", desc := "(LNextBench$Scene;)V" } : Jvm.MethodName) prog_9_method_2_code (2 : Nat) (Option.none : Option Jvm.ClassFile.FieldType)) ∈ tbG := tb_4 (i := 1) rfl rfl
theorem kw_722 : (Jvm.Cond.methodLink "NextBench$Scene" (34 : Nat) ({ cls := "java/lang/System", name := "arraycopy", desc := "(Ljava/lang/Object;ILjava/lang/Object;II)V" } : Jvm.MethodName)) ∈ tbG := tb_4 (i := 2) rfl rfl
theorem kw_723 : (Jvm.Cond.static ({ cls := "java/lang/System", name := "arraycopy", desc := "(Ljava/lang/Object;ILjava/lang/Object;II)V" } : Jvm.MethodName)) ∈ tbG := tb_4 (i := 3) rfl rfl
theorem kw_724 : (Jvm.Cond.native ({ cls := "java/lang/System", name := "arraycopy", desc := "(Ljava/lang/Object;ILjava/lang/Object;II)V" } : Jvm.MethodName)) ∈ tbG := tb_4 (i := 4) rfl rfl
theorem kw_725 : (Jvm.Cond.methodLink "NextBenchLaw" (149 : Nat) ({ cls := "NextBench", name := "restore", desc := "(I)I" } : Jvm.MethodName)) ∈ tbG := tb_4 (i := 5) rfl rfl
theorem kw_726 : (Jvm.Cond.instanceMethod ({ cls := "NextBench", name := "restore", desc := "(I)I" } : Jvm.MethodName)) ∈ tbG := tb_4 (i := 6) rfl rfl
theorem kw_727 : (Jvm.Cond.selects "NextBench" ({ cls := "NextBench", name := "restore", desc := "(I)I" } : Jvm.MethodName) ({ cls := "NextBench", name := "restore", desc := "(I)I" } : Jvm.MethodName)) ∈ tbG := tb_4 (i := 7) rfl rfl
theorem kw_728 : (Jvm.Cond.code ({ cls := "NextBench", name := "restore", desc := "(I)I" } : Jvm.MethodName) prog_1_method_34_code (2 : Nat) (Option.some Jvm.ClassFile.FieldType.int)) ∈ tbG := tb_4 (i := 8) rfl rfl
theorem kw_729 : (Jvm.Cond.methodLink "NextBenchLaw" (153 : Nat) ({ cls := "NextBench", name := "told", desc := "(I)I" } : Jvm.MethodName)) ∈ tbG := tb_4 (i := 9) rfl rfl
theorem kw_730 : (Jvm.Cond.instanceMethod ({ cls := "NextBench", name := "told", desc := "(I)I" } : Jvm.MethodName)) ∈ tbG := tb_4 (i := 10) rfl rfl
theorem kw_731 : (Jvm.Cond.selects "NextBench" ({ cls := "NextBench", name := "told", desc := "(I)I" } : Jvm.MethodName) ({ cls := "NextBench", name := "told", desc := "(I)I" } : Jvm.MethodName)) ∈ tbG := tb_4 (i := 11) rfl rfl
theorem kw_732 : (Jvm.Cond.code ({ cls := "NextBench", name := "told", desc := "(I)I" } : Jvm.MethodName) prog_1_method_35_code (2 : Nat) (Option.some Jvm.ClassFile.FieldType.int)) ∈ tbG := tb_4 (i := 12) rfl rfl
theorem kw_733 : (Jvm.Cond.methodLink "NextBench" (288 : Nat) ({ cls := "NextBench", name := "worthTold", desc := "(I)I" } : Jvm.MethodName)) ∈ tbG := tb_4 (i := 13) rfl rfl
theorem kw_735 : (Jvm.Cond.instanceMethod ({ cls := "NextBench", name := "worthTold", desc := "(I)I" } : Jvm.MethodName)) ∈ tbG := tb_4 (i := 15) rfl rfl
theorem kw_736 : (Jvm.Cond.code ({ cls := "NextBench", name := "worthTold", desc := "(I)I" } : Jvm.MethodName) prog_1_method_48_code (3 : Nat) (Option.some Jvm.ClassFile.FieldType.int)) ∈ tbG := tb_4 (i := 16) rfl rfl
theorem kw_737 : (Jvm.Cond.classLink "NextBenchLaw" (10 : Nat) "NextBenchModel") ∈ tbG := tb_4 (i := 17) rfl rfl
theorem kw_738 : (Jvm.Cond.instantiable "NextBenchModel" (27 : Nat)) ∈ tbG := tb_4 (i := 18) rfl rfl
theorem kw_739 : (Jvm.Cond.methodLink "NextBenchLaw" (12 : Nat) ({ cls := "NextBenchModel", name := "<init>", desc := "()V" } : Jvm.MethodName)) ∈ tbG := tb_4 (i := 19) rfl rfl
theorem kw_740 : (Jvm.Cond.instanceMethod ({ cls := "NextBenchModel", name := "<init>", desc := "()V" } : Jvm.MethodName)) ∈ tbG := tb_4 (i := 20) rfl rfl
theorem kw_741 : (Jvm.Cond.code ({ cls := "NextBenchModel", name := "<init>", desc := "()V" } : Jvm.MethodName) prog_13_method_1_code (1 : Nat) (Option.none : Option Jvm.ClassFile.FieldType)) ∈ tbG := tb_4 (i := 21) rfl rfl
theorem kw_742 : (Jvm.Cond.methodLink "NextBenchModel" (1 : Nat) ({ cls := "java/lang/Object", name := "<init>", desc := "()V" } : Jvm.MethodName)) ∈ tbG := tb_4 (i := 22) rfl rfl
theorem kw_743 : (Jvm.Cond.methodLink "NextBenchModel" (70 : Nat) ({ cls := "NextBenchModel", name := "findFar", desc := "(I)V" } : Jvm.MethodName)) ∈ tbG := tb_4 (i := 23) rfl rfl
theorem kw_745 : (Jvm.Cond.instanceMethod ({ cls := "NextBenchModel", name := "findFar", desc := "(I)V" } : Jvm.MethodName)) ∈ tbG := tb_4 (i := 25) rfl rfl
theorem kw_746 : (Jvm.Cond.code ({ cls := "NextBenchModel", name := "findFar", desc := "(I)V" } : Jvm.MethodName) prog_13_method_13_code (6 : Nat) (Option.none : Option Jvm.ClassFile.FieldType)) ∈ tbG := tb_4 (i := 26) rfl rfl
theorem kw_747 : (Jvm.Cond.methodLink "NextBenchModel" (92 : Nat) ({ cls := "NextBenchModel", name := "at", desc := "(II)I" } : Jvm.MethodName)) ∈ tbG := tb_4 (i := 27) rfl rfl
theorem kw_748 : (Jvm.Cond.static ({ cls := "NextBenchModel", name := "at", desc := "(II)I" } : Jvm.MethodName)) ∈ tbG := tb_4 (i := 28) rfl rfl
theorem kw_749 : (Jvm.Cond.code ({ cls := "NextBenchModel", name := "at", desc := "(II)I" } : Jvm.MethodName) prog_13_method_11_code (2 : Nat) (Option.some Jvm.ClassFile.FieldType.int)) ∈ tbG := tb_4 (i := 29) rfl rfl
theorem kw_750 : (Jvm.Cond.methodLink "NextBenchModel" (96 : Nat) ({ cls := "NextBenchModel", name := "link", desc := "(III)V" } : Jvm.MethodName)) ∈ tbG := tb_4 (i := 30) rfl rfl
theorem kw_752 : (Jvm.Cond.instanceMethod ({ cls := "NextBenchModel", name := "link", desc := "(III)V" } : Jvm.MethodName)) ∈ tbG := tb_4 (i := 32) rfl rfl
theorem kw_753 : (Jvm.Cond.code ({ cls := "NextBenchModel", name := "link", desc := "(III)V" } : Jvm.MethodName) prog_13_method_12_code (4 : Nat) (Option.none : Option Jvm.ClassFile.FieldType)) ∈ tbG := tb_4 (i := 33) rfl rfl
theorem kw_754 : (Jvm.Cond.fieldLink "NextBenchModel" (7 : Nat) "NextBenchModel" "signs" "[I") ∈ tbG := tb_4 (i := 34) rfl rfl
theorem kw_755 : (Jvm.Cond.fieldLink "NextBenchModel" (82 : Nat) "NextBenchModel" "signMany" "I") ∈ tbG := tb_4 (i := 35) rfl rfl
theorem kw_756 : (Jvm.Cond.fieldLink "NextBenchModel" (63 : Nat) "NextBenchModel" "seats" "I") ∈ tbG := tb_4 (i := 36) rfl rfl
theorem kw_757 : (Jvm.Cond.fieldLink "NextBenchModel" (13 : Nat) "NextBenchModel" "links" "[I") ∈ tbG := tb_4 (i := 37) rfl rfl
theorem kw_758 : (Jvm.Cond.fieldLink "NextBenchModel" (16 : Nat) "NextBenchModel" "worths" "[I") ∈ tbG := tb_4 (i := 38) rfl rfl
theorem kw_759 : (Jvm.Cond.fieldLink "NextBenchModel" (67 : Nat) "NextBenchModel" "bearIs" "I") ∈ tbG := tb_4 (i := 39) rfl rfl
theorem kw_760 : (Jvm.Cond.fieldLink "NextBenchModel" (19 : Nat) "NextBenchModel" "far" "[I") ∈ tbG := tb_4 (i := 40) rfl rfl
theorem kw_761 : (Jvm.Cond.fieldLink "NextBenchModel" (22 : Nat) "NextBenchModel" "mays" "[I") ∈ tbG := tb_4 (i := 41) rfl rfl
theorem kw_762 : (Jvm.Cond.fieldLink "NextBenchModel" (25 : Nat) "NextBenchModel" "rowsTo" "[J") ∈ tbG := tb_4 (i := 42) rfl rfl
theorem kw_763 : (Jvm.Cond.fieldLink "NextBenchModel" (29 : Nat) "NextBenchModel" "endIn" "[J") ∈ tbG := tb_4 (i := 43) rfl rfl
theorem kw_764 : (Jvm.Cond.fieldLink "NextBenchModel" (149 : Nat) "NextBenchModel" "rowsAll" "J") ∈ tbG := tb_4 (i := 44) rfl rfl
theorem kw_765 : (Jvm.Cond.fieldLink "NextBenchModel" (32 : Nat) "NextBenchModel" "ends" "[I") ∈ tbG := tb_4 (i := 45) rfl rfl
theorem kw_766 : (Jvm.Cond.fieldLink "NextBenchModel" (35 : Nat) "NextBenchModel" "pairSets" "[I") ∈ tbG := tb_4 (i := 46) rfl rfl
theorem kw_767 : (Jvm.Cond.fieldLink "NextBenchModel" (38 : Nat) "NextBenchModel" "awayIn" "[I") ∈ tbG := tb_4 (i := 47) rfl rfl
theorem kw_768 : (Jvm.Cond.fieldLink "NextBenchModel" (41 : Nat) "NextBenchModel" "now" "[J") ∈ tbG := tb_4 (i := 48) rfl rfl
theorem kw_769 : (Jvm.Cond.fieldLink "NextBenchModel" (44 : Nat) "NextBenchModel" "then" "[J") ∈ tbG := tb_4 (i := 49) rfl rfl
theorem kw_770 : (Jvm.Cond.fieldLink "NextBenchModel" (197 : Nat) "NextBenchModel" "awayUpper" "J") ∈ tbG := tb_4 (i := 50) rfl rfl
theorem kw_771 : (Jvm.Cond.fieldLink "NextBenchModel" (200 : Nat) "NextBenchModel" "lower" "J") ∈ tbG := tb_4 (i := 51) rfl rfl
theorem kw_772 : (Jvm.Cond.fieldLink "NextBenchModel" (47 : Nat) "NextBenchModel" "comers" "[I") ∈ tbG := tb_4 (i := 52) rfl rfl
theorem kw_773 : (Jvm.Cond.fieldLink "NextBenchModel" (219 : Nat) "NextBenchModel" "comerMany" "I") ∈ tbG := tb_4 (i := 53) rfl rfl
theorem kw_774 : (Jvm.Cond.fieldLink "NextBenchModel" (50 : Nat) "NextBenchModel" "seen" "[I") ∈ tbG := tb_4 (i := 54) rfl rfl
theorem kw_775 : (Jvm.Cond.fieldLink "NextBenchModel" (53 : Nat) "NextBenchModel" "seenMany" "[I") ∈ tbG := tb_4 (i := 55) rfl rfl
theorem kw_776 : (Jvm.Cond.fieldLink "NextBenchModel" (89 : Nat) "NextBenchModel" "seenRows" "I") ∈ tbG := tb_4 (i := 56) rfl rfl
theorem kw_777 : (Jvm.Cond.fieldLink "NextBenchModel" (56 : Nat) "NextBenchModel" "kept" "[I") ∈ tbG := tb_4 (i := 57) rfl rfl
theorem kw_778 : (Jvm.Cond.fieldLink "NextBenchModel" (59 : Nat) "NextBenchModel" "isKept" "[Z") ∈ tbG := tb_4 (i := 58) rfl rfl
theorem kw_779 : (Jvm.Cond.fieldLink "NextBenchModel" (232 : Nat) "NextBenchModel" "place" "I") ∈ tbG := tb_4 (i := 59) rfl rfl
theorem kw_780 : (Jvm.Cond.fieldLink "NextBenchModel" (228 : Nat) "NextBenchModel" "isWriting" "Z") ∈ tbG := tb_4 (i := 60) rfl rfl
theorem kw_781 : (Jvm.Cond.laysFinal "NextBenchModel" "NextBenchModel" "signs" "[I") ∈ tbG := tb_4 (i := 61) rfl rfl
theorem kw_783 : (Jvm.Cond.lays "NextBenchModel" "NextBenchModel" "signMany" "I") ∈ tbG := tb_4 (i := 63) rfl rfl
theorem kw_785 : (Jvm.Cond.lays "NextBenchModel" "NextBenchModel" "seats" "I") ∈ tbG := tb_4 (i := 65) rfl rfl
theorem kw_787 : (Jvm.Cond.laysFinal "NextBenchModel" "NextBenchModel" "links" "[I") ∈ tbG := tb_4 (i := 67) rfl rfl
theorem kw_789 : (Jvm.Cond.laysFinal "NextBenchModel" "NextBenchModel" "worths" "[I") ∈ tbG := tb_4 (i := 69) rfl rfl
theorem kw_791 : (Jvm.Cond.lays "NextBenchModel" "NextBenchModel" "bearIs" "I") ∈ tbG := tb_4 (i := 71) rfl rfl
theorem kw_793 : (Jvm.Cond.laysFinal "NextBenchModel" "NextBenchModel" "far" "[I") ∈ tbG := tb_4 (i := 73) rfl rfl
theorem kw_795 : (Jvm.Cond.laysFinal "NextBenchModel" "NextBenchModel" "mays" "[I") ∈ tbG := tb_4 (i := 75) rfl rfl
theorem kw_797 : (Jvm.Cond.laysFinal "NextBenchModel" "NextBenchModel" "rowsTo" "[J") ∈ tbG := tb_4 (i := 77) rfl rfl
theorem kw_799 : (Jvm.Cond.laysFinal "NextBenchModel" "NextBenchModel" "endIn" "[J") ∈ tbG := tb_4 (i := 79) rfl rfl
theorem kw_801 : (Jvm.Cond.lays "NextBenchModel" "NextBenchModel" "rowsAll" "J") ∈ tbG := tb_4 (i := 81) rfl rfl
theorem kw_803 : (Jvm.Cond.laysFinal "NextBenchModel" "NextBenchModel" "ends" "[I") ∈ tbG := tb_4 (i := 83) rfl rfl
theorem kw_805 : (Jvm.Cond.laysFinal "NextBenchModel" "NextBenchModel" "pairSets" "[I") ∈ tbG := tb_4 (i := 85) rfl rfl
theorem kw_807 : (Jvm.Cond.laysFinal "NextBenchModel" "NextBenchModel" "awayIn" "[I") ∈ tbG := tb_4 (i := 87) rfl rfl
theorem kw_809 : (Jvm.Cond.laysFinal "NextBenchModel" "NextBenchModel" "now" "[J") ∈ tbG := tb_4 (i := 89) rfl rfl
theorem kw_811 : (Jvm.Cond.laysFinal "NextBenchModel" "NextBenchModel" "then" "[J") ∈ tbG := tb_4 (i := 91) rfl rfl
theorem kw_813 : (Jvm.Cond.lays "NextBenchModel" "NextBenchModel" "awayUpper" "J") ∈ tbG := tb_4 (i := 93) rfl rfl
theorem kw_815 : (Jvm.Cond.lays "NextBenchModel" "NextBenchModel" "lower" "J") ∈ tbG := tb_4 (i := 95) rfl rfl
theorem kw_817 : (Jvm.Cond.laysFinal "NextBenchModel" "NextBenchModel" "comers" "[I") ∈ tbG := tb_4 (i := 97) rfl rfl
theorem kw_819 : (Jvm.Cond.lays "NextBenchModel" "NextBenchModel" "comerMany" "I") ∈ tbG := tb_4 (i := 99) rfl rfl
theorem kw_821 : (Jvm.Cond.laysFinal "NextBenchModel" "NextBenchModel" "seen" "[I") ∈ tbG := tb_4 (i := 101) rfl rfl
theorem kw_823 : (Jvm.Cond.laysFinal "NextBenchModel" "NextBenchModel" "seenMany" "[I") ∈ tbG := tb_4 (i := 103) rfl rfl
theorem kw_825 : (Jvm.Cond.lays "NextBenchModel" "NextBenchModel" "seenRows" "I") ∈ tbG := tb_4 (i := 105) rfl rfl
theorem kw_827 : (Jvm.Cond.laysFinal "NextBenchModel" "NextBenchModel" "kept" "[I") ∈ tbG := tb_4 (i := 107) rfl rfl
theorem kw_829 : (Jvm.Cond.laysFinal "NextBenchModel" "NextBenchModel" "isKept" "[Z") ∈ tbG := tb_4 (i := 109) rfl rfl
theorem kw_831 : (Jvm.Cond.lays "NextBenchModel" "NextBenchModel" "place" "I") ∈ tbG := tb_4 (i := 111) rfl rfl
theorem kw_833 : (Jvm.Cond.lays "NextBenchModel" "NextBenchModel" "isWriting" "Z") ∈ tbG := tb_4 (i := 113) rfl rfl
theorem kw_836 : (Jvm.Cond.arrayClass Jvm.ClassFile.FieldType.boolean) ∈ tbG := tb_4 (i := 116) rfl rfl
theorem kw_837 : (Jvm.Cond.methodLink "NextBenchLaw" (17 : Nat) ({ cls := "NextBenchModel", name := "say", desc := "(I)I" } : Jvm.MethodName)) ∈ tbG := tb_4 (i := 117) rfl rfl
theorem kw_838 : (Jvm.Cond.instanceMethod ({ cls := "NextBenchModel", name := "say", desc := "(I)I" } : Jvm.MethodName)) ∈ tbG := tb_4 (i := 118) rfl rfl
theorem kw_839 : (Jvm.Cond.selects "NextBenchModel" ({ cls := "NextBenchModel", name := "say", desc := "(I)I" } : Jvm.MethodName) ({ cls := "NextBenchModel", name := "say", desc := "(I)I" } : Jvm.MethodName)) ∈ tbG := tb_4 (i := 119) rfl rfl
theorem kw_840 : (Jvm.Cond.code ({ cls := "NextBenchModel", name := "say", desc := "(I)I" } : Jvm.MethodName) prog_13_method_7_code (2 : Nat) (Option.some Jvm.ClassFile.FieldType.int)) ∈ tbG := tb_4 (i := 120) rfl rfl
theorem kw_841 : (Jvm.Cond.constantLong "NextBenchModel" (78 : Nat) (33 : Int64)) ∈ tbG := tb_4 (i := 121) rfl rfl
theorem kw_842 : (Jvm.Cond.constantLong "NextBenchModel" (80 : Nat) (126 : Int64)) ∈ tbG := tb_4 (i := 122) rfl rfl
theorem kw_843 : (Jvm.Cond.methodLink "NextBenchModel" (74 : Nat) ({ cls := "NextBenchModel", name := "in", desc := "(JJJ)Z" } : Jvm.MethodName)) ∈ tbG := tb_4 (i := 123) rfl rfl
theorem kw_844 : (Jvm.Cond.static ({ cls := "NextBenchModel", name := "in", desc := "(JJJ)Z" } : Jvm.MethodName)) ∈ tbG := tb_4 (i := 124) rfl rfl
theorem kw_845 : (Jvm.Cond.code ({ cls := "NextBenchModel", name := "in", desc := "(JJJ)Z" } : Jvm.MethodName) prog_13_method_3_code (6 : Nat) (Option.some Jvm.ClassFile.FieldType.boolean)) ∈ tbG := tb_4 (i := 125) rfl rfl
theorem kw_846 : (Jvm.Cond.methodLink "NextBenchLaw" (22 : Nat) ({ cls := "NextBenchModel", name := "wipe", desc := "()I" } : Jvm.MethodName)) ∈ tbG := tb_4 (i := 126) rfl rfl
theorem kw_847 : (Jvm.Cond.instanceMethod ({ cls := "NextBenchModel", name := "wipe", desc := "()I" } : Jvm.MethodName)) ∈ tbG := tb_4 (i := 127) rfl rfl
theorem kw_848 : (Jvm.Cond.selects "NextBenchModel" ({ cls := "NextBenchModel", name := "wipe", desc := "()I" } : Jvm.MethodName) ({ cls := "NextBenchModel", name := "wipe", desc := "()I" } : Jvm.MethodName)) ∈ tbG := tb_4 (i := 128) rfl rfl
theorem kw_849 : (Jvm.Cond.code ({ cls := "NextBenchModel", name := "wipe", desc := "()I" } : Jvm.MethodName) prog_13_method_8_code (2 : Nat) (Option.some Jvm.ClassFile.FieldType.int)) ∈ tbG := tb_4 (i := 129) rfl rfl
theorem kw_850 : (Jvm.Cond.methodLink "NextBenchLaw" (26 : Nat) ({ cls := "NextBenchModel", name := "fault", desc := "()I" } : Jvm.MethodName)) ∈ tbG := tb_4 (i := 130) rfl rfl
theorem kw_851 : (Jvm.Cond.instanceMethod ({ cls := "NextBenchModel", name := "fault", desc := "()I" } : Jvm.MethodName)) ∈ tbG := tb_4 (i := 131) rfl rfl
theorem kw_852 : (Jvm.Cond.selects "NextBenchModel" ({ cls := "NextBenchModel", name := "fault", desc := "()I" } : Jvm.MethodName) ({ cls := "NextBenchModel", name := "fault", desc := "()I" } : Jvm.MethodName)) ∈ tbG := tb_4 (i := 132) rfl rfl
theorem kw_853 : (Jvm.Cond.code ({ cls := "NextBenchModel", name := "fault", desc := "()I" } : Jvm.MethodName) prog_13_method_9_code (6 : Nat) (Option.some Jvm.ClassFile.FieldType.int)) ∈ tbG := tb_4 (i := 133) rfl rfl
theorem kw_854 : (Jvm.Cond.methodLink "NextBenchLaw" (30 : Nat) ({ cls := "NextBenchModel", name := "room", desc := "()I" } : Jvm.MethodName)) ∈ tbG := tb_4 (i := 134) rfl rfl
theorem kw_855 : (Jvm.Cond.instanceMethod ({ cls := "NextBenchModel", name := "room", desc := "()I" } : Jvm.MethodName)) ∈ tbG := tb_4 (i := 135) rfl rfl
theorem kw_856 : (Jvm.Cond.selects "NextBenchModel" ({ cls := "NextBenchModel", name := "room", desc := "()I" } : Jvm.MethodName) ({ cls := "NextBenchModel", name := "room", desc := "()I" } : Jvm.MethodName)) ∈ tbG := tb_4 (i := 136) rfl rfl
theorem kw_857 : (Jvm.Cond.code ({ cls := "NextBenchModel", name := "room", desc := "()I" } : Jvm.MethodName) prog_13_method_10_code (8 : Nat) (Option.some Jvm.ClassFile.FieldType.int)) ∈ tbG := tb_4 (i := 137) rfl rfl
theorem kw_858 : (Jvm.Cond.methodLink "NextBenchModel" (85 : Nat) ({ cls := "NextBenchModel", name := "fault", desc := "()I" } : Jvm.MethodName)) ∈ tbG := tb_4 (i := 138) rfl rfl
theorem kw_859 : (Jvm.Cond.methodLink "NextBenchLaw" (35 : Nat) ({ cls := "NextBenchModel", name := "worth", desc := "(II)I" } : Jvm.MethodName)) ∈ tbG := tb_4 (i := 139) rfl rfl
theorem kw_860 : (Jvm.Cond.instanceMethod ({ cls := "NextBenchModel", name := "worth", desc := "(II)I" } : Jvm.MethodName)) ∈ tbG := tb_4 (i := 140) rfl rfl
theorem kw_861 : (Jvm.Cond.selects "NextBenchModel" ({ cls := "NextBenchModel", name := "worth", desc := "(II)I" } : Jvm.MethodName) ({ cls := "NextBenchModel", name := "worth", desc := "(II)I" } : Jvm.MethodName)) ∈ tbG := tb_4 (i := 141) rfl rfl
theorem kw_862 : (Jvm.Cond.code ({ cls := "NextBenchModel", name := "worth", desc := "(II)I" } : Jvm.MethodName) prog_13_method_15_code (4 : Nat) (Option.some Jvm.ClassFile.FieldType.int)) ∈ tbG := tb_4 (i := 142) rfl rfl
theorem kw_863 : (Jvm.Cond.methodLink "NextBenchModel" (100 : Nat) ({ cls := "NextBenchModel", name := "isSeat", desc := "(I)Z" } : Jvm.MethodName)) ∈ tbG := tb_4 (i := 143) rfl rfl
theorem kw_865 : (Jvm.Cond.instanceMethod ({ cls := "NextBenchModel", name := "isSeat", desc := "(I)Z" } : Jvm.MethodName)) ∈ tbG := tb_4 (i := 145) rfl rfl
theorem kw_866 : (Jvm.Cond.code ({ cls := "NextBenchModel", name := "isSeat", desc := "(I)Z" } : Jvm.MethodName) prog_13_method_14_code (2 : Nat) (Option.some Jvm.ClassFile.FieldType.boolean)) ∈ tbG := tb_4 (i := 146) rfl rfl
theorem kw_867 : (Jvm.Cond.constantLong "NextBenchModel" (104 : Nat) (9 : Int64)) ∈ tbG := tb_4 (i := 147) rfl rfl
theorem kw_868 : (Jvm.Cond.methodLink "NextBenchLaw" (39 : Nat) ({ cls := "NextBenchModel", name := "bear", desc := "(I)I" } : Jvm.MethodName)) ∈ tbG := tb_4 (i := 148) rfl rfl
theorem kw_869 : (Jvm.Cond.instanceMethod ({ cls := "NextBenchModel", name := "bear", desc := "(I)I" } : Jvm.MethodName)) ∈ tbG := tb_4 (i := 149) rfl rfl
theorem kw_870 : (Jvm.Cond.selects "NextBenchModel" ({ cls := "NextBenchModel", name := "bear", desc := "(I)I" } : Jvm.MethodName) ({ cls := "NextBenchModel", name := "bear", desc := "(I)I" } : Jvm.MethodName)) ∈ tbG := tb_4 (i := 150) rfl rfl
theorem kw_871 : (Jvm.Cond.code ({ cls := "NextBenchModel", name := "bear", desc := "(I)I" } : Jvm.MethodName) prog_13_method_16_code (3 : Nat) (Option.some Jvm.ClassFile.FieldType.int)) ∈ tbG := tb_4 (i := 151) rfl rfl
theorem kw_872 : (Jvm.Cond.constantLong "NextBenchModel" (106 : Nat) (4 : Int64)) ∈ tbG := tb_4 (i := 152) rfl rfl
theorem kw_873 : (Jvm.Cond.methodLink "NextBenchLaw" (43 : Nat) ({ cls := "NextBenchModel", name := "far", desc := "(II)I" } : Jvm.MethodName)) ∈ tbG := tb_4 (i := 153) rfl rfl
theorem kw_874 : (Jvm.Cond.instanceMethod ({ cls := "NextBenchModel", name := "far", desc := "(II)I" } : Jvm.MethodName)) ∈ tbG := tb_4 (i := 154) rfl rfl
theorem kw_875 : (Jvm.Cond.selects "NextBenchModel" ({ cls := "NextBenchModel", name := "far", desc := "(II)I" } : Jvm.MethodName) ({ cls := "NextBenchModel", name := "far", desc := "(II)I" } : Jvm.MethodName)) ∈ tbG := tb_4 (i := 155) rfl rfl
theorem kw_876 : (Jvm.Cond.code ({ cls := "NextBenchModel", name := "far", desc := "(II)I" } : Jvm.MethodName) prog_13_method_17_code (3 : Nat) (Option.some Jvm.ClassFile.FieldType.int)) ∈ tbG := tb_4 (i := 156) rfl rfl
theorem kw_877 : (Jvm.Cond.methodLink "NextBenchLaw" (47 : Nat) ({ cls := "NextBenchModel", name := "may", desc := "(I)I" } : Jvm.MethodName)) ∈ tbG := tb_4 (i := 157) rfl rfl
theorem kw_878 : (Jvm.Cond.instanceMethod ({ cls := "NextBenchModel", name := "may", desc := "(I)I" } : Jvm.MethodName)) ∈ tbG := tb_4 (i := 158) rfl rfl
theorem kw_879 : (Jvm.Cond.selects "NextBenchModel" ({ cls := "NextBenchModel", name := "may", desc := "(I)I" } : Jvm.MethodName) ({ cls := "NextBenchModel", name := "may", desc := "(I)I" } : Jvm.MethodName)) ∈ tbG := tb_4 (i := 159) rfl rfl
theorem kw_880 : (Jvm.Cond.code ({ cls := "NextBenchModel", name := "may", desc := "(I)I" } : Jvm.MethodName) prog_13_method_27_code (2 : Nat) (Option.some Jvm.ClassFile.FieldType.int)) ∈ tbG := tb_4 (i := 160) rfl rfl
theorem kw_881 : (Jvm.Cond.methodLink "NextBenchModel" (127 : Nat) ({ cls := "NextBenchModel", name := "isSet", desc := "(I)Z" } : Jvm.MethodName)) ∈ tbG := tb_4 (i := 161) rfl rfl
theorem kw_883 : (Jvm.Cond.instanceMethod ({ cls := "NextBenchModel", name := "isSet", desc := "(I)Z" } : Jvm.MethodName)) ∈ tbG := tb_4 (i := 163) rfl rfl
theorem kw_884 : (Jvm.Cond.code ({ cls := "NextBenchModel", name := "isSet", desc := "(I)Z" } : Jvm.MethodName) prog_13_method_18_code (2 : Nat) (Option.some Jvm.ClassFile.FieldType.boolean)) ∈ tbG := tb_4 (i := 164) rfl rfl
theorem kw_885 : (Jvm.Cond.methodLink "NextBenchModel" (130 : Nat) ({ cls := "NextBenchModel", name := "isFilled", desc := "(I)Z" } : Jvm.MethodName)) ∈ tbG := tb_4 (i := 165) rfl rfl
theorem kw_887 : (Jvm.Cond.instanceMethod ({ cls := "NextBenchModel", name := "isFilled", desc := "(I)Z" } : Jvm.MethodName)) ∈ tbG := tb_4 (i := 167) rfl rfl
theorem kw_888 : (Jvm.Cond.code ({ cls := "NextBenchModel", name := "isFilled", desc := "(I)Z" } : Jvm.MethodName) prog_13_method_21_code (4 : Nat) (Option.some Jvm.ClassFile.FieldType.boolean)) ∈ tbG := tb_4 (i := 168) rfl rfl
theorem kw_889 : (Jvm.Cond.methodLink "NextBenchModel" (108 : Nat) ({ cls := "NextBenchModel", name := "awayOf", desc := "(II)I" } : Jvm.MethodName)) ∈ tbG := tb_4 (i := 169) rfl rfl
theorem kw_891 : (Jvm.Cond.instanceMethod ({ cls := "NextBenchModel", name := "awayOf", desc := "(II)I" } : Jvm.MethodName)) ∈ tbG := tb_4 (i := 171) rfl rfl
theorem kw_892 : (Jvm.Cond.code ({ cls := "NextBenchModel", name := "awayOf", desc := "(II)I" } : Jvm.MethodName) prog_13_method_19_code (5 : Nat) (Option.some Jvm.ClassFile.FieldType.int)) ∈ tbG := tb_4 (i := 172) rfl rfl
theorem kw_893 : (Jvm.Cond.methodLink "NextBenchModel" (115 : Nat) ({ cls := "NextBenchModel", name := "mayOf", desc := "(I)I" } : Jvm.MethodName)) ∈ tbG := tb_4 (i := 173) rfl rfl
theorem kw_895 : (Jvm.Cond.instanceMethod ({ cls := "NextBenchModel", name := "mayOf", desc := "(I)I" } : Jvm.MethodName)) ∈ tbG := tb_4 (i := 175) rfl rfl
theorem kw_896 : (Jvm.Cond.code ({ cls := "NextBenchModel", name := "mayOf", desc := "(I)I" } : Jvm.MethodName) prog_13_method_20_code (4 : Nat) (Option.some Jvm.ClassFile.FieldType.int)) ∈ tbG := tb_4 (i := 176) rfl rfl
theorem kw_897 : (Jvm.Cond.methodLink "NextBenchLaw" (51 : Nat) ({ cls := "NextBenchModel", name := "takes", desc := "(II)I" } : Jvm.MethodName)) ∈ tbG := tb_4 (i := 177) rfl rfl
theorem kw_898 : (Jvm.Cond.instanceMethod ({ cls := "NextBenchModel", name := "takes", desc := "(II)I" } : Jvm.MethodName)) ∈ tbG := tb_4 (i := 178) rfl rfl
theorem kw_899 : (Jvm.Cond.selects "NextBenchModel" ({ cls := "NextBenchModel", name := "takes", desc := "(II)I" } : Jvm.MethodName) ({ cls := "NextBenchModel", name := "takes", desc := "(II)I" } : Jvm.MethodName)) ∈ tbG := tb_4 (i := 179) rfl rfl
theorem kw_900 : (Jvm.Cond.code ({ cls := "NextBenchModel", name := "takes", desc := "(II)I" } : Jvm.MethodName) prog_13_method_28_code (3 : Nat) (Option.some Jvm.ClassFile.FieldType.int)) ∈ tbG := tb_4 (i := 180) rfl rfl
theorem kw_901 : (Jvm.Cond.methodLink "NextBenchModel" (133 : Nat) ({ cls := "NextBenchModel", name := "isHabit", desc := "(I)Z" } : Jvm.MethodName)) ∈ tbG := tb_4 (i := 181) rfl rfl
theorem kw_902 : (Jvm.Cond.static ({ cls := "NextBenchModel", name := "isHabit", desc := "(I)Z" } : Jvm.MethodName)) ∈ tbG := tb_4 (i := 182) rfl rfl
theorem kw_903 : (Jvm.Cond.code ({ cls := "NextBenchModel", name := "isHabit", desc := "(I)Z" } : Jvm.MethodName) prog_13_method_26_code (1 : Nat) (Option.some Jvm.ClassFile.FieldType.boolean)) ∈ tbG := tb_4 (i := 183) rfl rfl
theorem kw_904 : (Jvm.Cond.constantLong "NextBenchModel" (125 : Nat) (5 : Int64)) ∈ tbG := tb_4 (i := 184) rfl rfl
theorem kw_905 : (Jvm.Cond.methodLink "NextBenchModel" (122 : Nat) ({ cls := "NextBenchModel", name := "takenBy", desc := "(II)I" } : Jvm.MethodName)) ∈ tbG := tb_4 (i := 185) rfl rfl
theorem kw_907 : (Jvm.Cond.instanceMethod ({ cls := "NextBenchModel", name := "takenBy", desc := "(II)I" } : Jvm.MethodName)) ∈ tbG := tb_4 (i := 187) rfl rfl
theorem kw_908 : (Jvm.Cond.code ({ cls := "NextBenchModel", name := "takenBy", desc := "(II)I" } : Jvm.MethodName) prog_13_method_24_code (8 : Nat) (Option.some Jvm.ClassFile.FieldType.int)) ∈ tbG := tb_4 (i := 188) rfl rfl
theorem kw_909 : (Jvm.Cond.methodLink "NextBenchModel" (118 : Nat) ({ cls := "NextBenchModel", name := "rankOf", desc := "(III)I" } : Jvm.MethodName)) ∈ tbG := tb_4 (i := 189) rfl rfl
theorem kw_911 : (Jvm.Cond.instanceMethod ({ cls := "NextBenchModel", name := "rankOf", desc := "(III)I" } : Jvm.MethodName)) ∈ tbG := tb_4 (i := 191) rfl rfl
theorem kw_912 : (Jvm.Cond.code ({ cls := "NextBenchModel", name := "rankOf", desc := "(III)I" } : Jvm.MethodName) prog_13_method_23_code (5 : Nat) (Option.some Jvm.ClassFile.FieldType.int)) ∈ tbG := tb_4 (i := 192) rfl rfl
theorem kw_913 : (Jvm.Cond.methodLink "NextBenchModel" (111 : Nat) ({ cls := "NextBenchModel", name := "nearOnes", desc := "(I)I" } : Jvm.MethodName)) ∈ tbG := tb_4 (i := 193) rfl rfl
theorem kw_915 : (Jvm.Cond.instanceMethod ({ cls := "NextBenchModel", name := "nearOnes", desc := "(I)I" } : Jvm.MethodName)) ∈ tbG := tb_4 (i := 195) rfl rfl
theorem kw_916 : (Jvm.Cond.code ({ cls := "NextBenchModel", name := "nearOnes", desc := "(I)I" } : Jvm.MethodName) prog_13_method_22_code (4 : Nat) (Option.some Jvm.ClassFile.FieldType.int)) ∈ tbG := tb_4 (i := 196) rfl rfl
theorem kw_917 : (Jvm.Cond.methodLink "NextBenchLaw" (55 : Nat) ({ cls := "NextBenchModel", name := "fill", desc := "(II)I" } : Jvm.MethodName)) ∈ tbG := tb_4 (i := 197) rfl rfl
theorem kw_918 : (Jvm.Cond.instanceMethod ({ cls := "NextBenchModel", name := "fill", desc := "(II)I" } : Jvm.MethodName)) ∈ tbG := tb_4 (i := 198) rfl rfl
theorem kw_919 : (Jvm.Cond.selects "NextBenchModel" ({ cls := "NextBenchModel", name := "fill", desc := "(II)I" } : Jvm.MethodName) ({ cls := "NextBenchModel", name := "fill", desc := "(II)I" } : Jvm.MethodName)) ∈ tbG := tb_4 (i := 199) rfl rfl
theorem kw_920 : (Jvm.Cond.code ({ cls := "NextBenchModel", name := "fill", desc := "(II)I" } : Jvm.MethodName) prog_13_method_29_code (3 : Nat) (Option.some Jvm.ClassFile.FieldType.int)) ∈ tbG := tb_4 (i := 200) rfl rfl
theorem kw_921 : (Jvm.Cond.methodLink "NextBenchModel" (136 : Nat) ({ cls := "NextBenchModel", name := "filledBy", desc := "(II)I" } : Jvm.MethodName)) ∈ tbG := tb_4 (i := 201) rfl rfl
theorem kw_923 : (Jvm.Cond.instanceMethod ({ cls := "NextBenchModel", name := "filledBy", desc := "(II)I" } : Jvm.MethodName)) ∈ tbG := tb_4 (i := 203) rfl rfl
theorem kw_924 : (Jvm.Cond.code ({ cls := "NextBenchModel", name := "filledBy", desc := "(II)I" } : Jvm.MethodName) prog_13_method_25_code (5 : Nat) (Option.some Jvm.ClassFile.FieldType.int)) ∈ tbG := tb_4 (i := 204) rfl rfl
theorem kw_925 : (Jvm.Cond.methodLink "NextBenchLaw" (59 : Nat) ({ cls := "NextBenchModel", name := "whole", desc := "(I)I" } : Jvm.MethodName)) ∈ tbG := tb_4 (i := 205) rfl rfl
theorem kw_926 : (Jvm.Cond.instanceMethod ({ cls := "NextBenchModel", name := "whole", desc := "(I)I" } : Jvm.MethodName)) ∈ tbG := tb_4 (i := 206) rfl rfl
theorem kw_927 : (Jvm.Cond.selects "NextBenchModel" ({ cls := "NextBenchModel", name := "whole", desc := "(I)I" } : Jvm.MethodName) ({ cls := "NextBenchModel", name := "whole", desc := "(I)I" } : Jvm.MethodName)) ∈ tbG := tb_4 (i := 207) rfl rfl
theorem kw_928 : (Jvm.Cond.code ({ cls := "NextBenchModel", name := "whole", desc := "(I)I" } : Jvm.MethodName) prog_13_method_31_code (6 : Nat) (Option.some Jvm.ClassFile.FieldType.int)) ∈ tbG := tb_4 (i := 208) rfl rfl
theorem kw_929 : (Jvm.Cond.constantLong "NextBenchModel" (139 : Nat) (3 : Int64)) ∈ tbG := tb_4 (i := 209) rfl rfl
theorem kw_930 : (Jvm.Cond.methodLink "NextBenchModel" (141 : Nat) ({ cls := "NextBenchModel", name := "findMays", desc := "()I" } : Jvm.MethodName)) ∈ tbG := tb_4 (i := 210) rfl rfl
theorem kw_932 : (Jvm.Cond.instanceMethod ({ cls := "NextBenchModel", name := "findMays", desc := "()I" } : Jvm.MethodName)) ∈ tbG := tb_4 (i := 212) rfl rfl
theorem kw_933 : (Jvm.Cond.code ({ cls := "NextBenchModel", name := "findMays", desc := "()I" } : Jvm.MethodName) prog_13_method_30_code (3 : Nat) (Option.some Jvm.ClassFile.FieldType.int)) ∈ tbG := tb_4 (i := 213) rfl rfl
theorem kw_934 : (Jvm.Cond.methodLink "NextBenchModel" (144 : Nat) ({ cls := "NextBenchModel", name := "ones", desc := "(I)I" } : Jvm.MethodName)) ∈ tbG := tb_4 (i := 214) rfl rfl
theorem kw_935 : (Jvm.Cond.static ({ cls := "NextBenchModel", name := "ones", desc := "(I)I" } : Jvm.MethodName)) ∈ tbG := tb_4 (i := 215) rfl rfl
theorem kw_936 : (Jvm.Cond.code ({ cls := "NextBenchModel", name := "ones", desc := "(I)I" } : Jvm.MethodName) prog_13_method_4_code (3 : Nat) (Option.some Jvm.ClassFile.FieldType.int)) ∈ tbG := tb_4 (i := 216) rfl rfl
theorem kw_937 : (Jvm.Cond.methodLink "NextBenchLaw" (63 : Nat) ({ cls := "NextBenchModel", name := "ways", desc := "(I)I" } : Jvm.MethodName)) ∈ tbG := tb_4 (i := 217) rfl rfl
theorem kw_938 : (Jvm.Cond.instanceMethod ({ cls := "NextBenchModel", name := "ways", desc := "(I)I" } : Jvm.MethodName)) ∈ tbG := tb_4 (i := 218) rfl rfl
theorem kw_939 : (Jvm.Cond.selects "NextBenchModel" ({ cls := "NextBenchModel", name := "ways", desc := "(I)I" } : Jvm.MethodName) ({ cls := "NextBenchModel", name := "ways", desc := "(I)I" } : Jvm.MethodName)) ∈ tbG := tb_4 (i := 219) rfl rfl
theorem kw_940 : (Jvm.Cond.code ({ cls := "NextBenchModel", name := "ways", desc := "(I)I" } : Jvm.MethodName) prog_13_method_32_code (5 : Nat) (Option.some Jvm.ClassFile.FieldType.int)) ∈ tbG := tb_4 (i := 220) rfl rfl
theorem kw_941 : (Jvm.Cond.constantLong "NextBenchModel" (147 : Nat) (12 : Int64)) ∈ tbG := tb_4 (i := 221) rfl rfl
theorem kw_942 : (Jvm.Cond.methodLink "NextBenchLaw" (68 : Nat) ({ cls := "NextBenchModel", name := "mean", desc := "(I)J" } : Jvm.MethodName)) ∈ tbG := tb_4 (i := 222) rfl rfl
theorem kw_943 : (Jvm.Cond.instanceMethod ({ cls := "NextBenchModel", name := "mean", desc := "(I)J" } : Jvm.MethodName)) ∈ tbG := tb_4 (i := 223) rfl rfl
theorem kw_944 : (Jvm.Cond.selects "NextBenchModel" ({ cls := "NextBenchModel", name := "mean", desc := "(I)J" } : Jvm.MethodName) ({ cls := "NextBenchModel", name := "mean", desc := "(I)J" } : Jvm.MethodName)) ∈ tbG := tb_4 (i := 224) rfl rfl
theorem kw_945 : (Jvm.Cond.code ({ cls := "NextBenchModel", name := "mean", desc := "(I)J" } : Jvm.MethodName) prog_13_method_35_code (2 : Nat) (Option.some Jvm.ClassFile.FieldType.long)) ∈ tbG := tb_4 (i := 225) rfl rfl
theorem kw_946 : (Jvm.Cond.methodLink "NextBenchModel" (153 : Nat) ({ cls := "NextBenchModel", name := "isPart", desc := "(I)Z" } : Jvm.MethodName)) ∈ tbG := tb_4 (i := 226) rfl rfl
theorem kw_947 : (Jvm.Cond.static ({ cls := "NextBenchModel", name := "isPart", desc := "(I)Z" } : Jvm.MethodName)) ∈ tbG := tb_4 (i := 227) rfl rfl
theorem kw_948 : (Jvm.Cond.code ({ cls := "NextBenchModel", name := "isPart", desc := "(I)Z" } : Jvm.MethodName) prog_13_method_5_code (1 : Nat) (Option.some Jvm.ClassFile.FieldType.boolean)) ∈ tbG := tb_4 (i := 228) rfl rfl
theorem kw_949 : (Jvm.Cond.constantLong "NextBenchModel" (156 : Nat) (-1000000000000000002 : Int64)) ∈ tbG := tb_4 (i := 229) rfl rfl
theorem kw_950 : (Jvm.Cond.methodLink "NextBenchModel" (158 : Nat) ({ cls := "NextBenchModel", name := "findAny", desc := "()V" } : Jvm.MethodName)) ∈ tbG := tb_4 (i := 230) rfl rfl
theorem kw_952 : (Jvm.Cond.instanceMethod ({ cls := "NextBenchModel", name := "findAny", desc := "()V" } : Jvm.MethodName)) ∈ tbG := tb_4 (i := 232) rfl rfl
theorem kw_953 : (Jvm.Cond.code ({ cls := "NextBenchModel", name := "findAny", desc := "()V" } : Jvm.MethodName) prog_13_method_33_code (6 : Nat) (Option.none : Option Jvm.ClassFile.FieldType)) ∈ tbG := tb_4 (i := 233) rfl rfl
theorem kw_954 : (Jvm.Cond.methodLink "NextBenchModel" (161 : Nat) ({ cls := "NextBenchModel", name := "meanUpper", desc := "()J" } : Jvm.MethodName)) ∈ tbG := tb_4 (i := 234) rfl rfl
theorem kw_956 : (Jvm.Cond.instanceMethod ({ cls := "NextBenchModel", name := "meanUpper", desc := "()J" } : Jvm.MethodName)) ∈ tbG := tb_4 (i := 236) rfl rfl
theorem kw_957 : (Jvm.Cond.code ({ cls := "NextBenchModel", name := "meanUpper", desc := "()J" } : Jvm.MethodName) prog_13_method_34_code (4 : Nat) (Option.some Jvm.ClassFile.FieldType.long)) ∈ tbG := tb_4 (i := 237) rfl rfl
theorem kw_958 : (Jvm.Cond.methodLink "NextBenchModel" (165 : Nat) ({ cls := "NextBenchModel", name := "lowest", desc := "(JJI)J" } : Jvm.MethodName)) ∈ tbG := tb_4 (i := 238) rfl rfl
theorem kw_959 : (Jvm.Cond.static ({ cls := "NextBenchModel", name := "lowest", desc := "(JJI)J" } : Jvm.MethodName)) ∈ tbG := tb_4 (i := 239) rfl rfl
theorem kw_960 : (Jvm.Cond.code ({ cls := "NextBenchModel", name := "lowest", desc := "(JJI)J" } : Jvm.MethodName) prog_13_method_6_code (11 : Nat) (Option.some Jvm.ClassFile.FieldType.long)) ∈ tbG := tb_5 (i := 0) rfl rfl
theorem kw_961 : (Jvm.Cond.methodLink "NextBenchLaw" (73 : Nat) ({ cls := "NextBenchModel", name := "odds", desc := "(II)J" } : Jvm.MethodName)) ∈ tbG := tb_5 (i := 1) rfl rfl
theorem kw_962 : (Jvm.Cond.instanceMethod ({ cls := "NextBenchModel", name := "odds", desc := "(II)J" } : Jvm.MethodName)) ∈ tbG := tb_5 (i := 2) rfl rfl
theorem kw_963 : (Jvm.Cond.selects "NextBenchModel" ({ cls := "NextBenchModel", name := "odds", desc := "(II)J" } : Jvm.MethodName) ({ cls := "NextBenchModel", name := "odds", desc := "(II)J" } : Jvm.MethodName)) ∈ tbG := tb_5 (i := 3) rfl rfl
theorem kw_964 : (Jvm.Cond.code ({ cls := "NextBenchModel", name := "odds", desc := "(II)J" } : Jvm.MethodName) prog_13_method_36_code (3 : Nat) (Option.some Jvm.ClassFile.FieldType.long)) ∈ tbG := tb_5 (i := 4) rfl rfl
theorem kw_965 : (Jvm.Cond.methodLink "NextBenchLaw" (77 : Nat) ({ cls := "NextBenchModel", name := "first", desc := "(II)I" } : Jvm.MethodName)) ∈ tbG := tb_5 (i := 5) rfl rfl
theorem kw_966 : (Jvm.Cond.instanceMethod ({ cls := "NextBenchModel", name := "first", desc := "(II)I" } : Jvm.MethodName)) ∈ tbG := tb_5 (i := 6) rfl rfl
theorem kw_967 : (Jvm.Cond.selects "NextBenchModel" ({ cls := "NextBenchModel", name := "first", desc := "(II)I" } : Jvm.MethodName) ({ cls := "NextBenchModel", name := "first", desc := "(II)I" } : Jvm.MethodName)) ∈ tbG := tb_5 (i := 7) rfl rfl
theorem kw_968 : (Jvm.Cond.code ({ cls := "NextBenchModel", name := "first", desc := "(II)I" } : Jvm.MethodName) prog_13_method_37_code (9 : Nat) (Option.some Jvm.ClassFile.FieldType.int)) ∈ tbG := tb_5 (i := 8) rfl rfl
theorem kw_969 : (Jvm.Cond.methodLink "NextBenchLaw" (82 : Nat) ({ cls := "NextBenchModel", name := "game", desc := "(III)I" } : Jvm.MethodName)) ∈ tbG := tb_5 (i := 9) rfl rfl
theorem kw_970 : (Jvm.Cond.instanceMethod ({ cls := "NextBenchModel", name := "game", desc := "(III)I" } : Jvm.MethodName)) ∈ tbG := tb_5 (i := 10) rfl rfl
theorem kw_971 : (Jvm.Cond.selects "NextBenchModel" ({ cls := "NextBenchModel", name := "game", desc := "(III)I" } : Jvm.MethodName) ({ cls := "NextBenchModel", name := "game", desc := "(III)I" } : Jvm.MethodName)) ∈ tbG := tb_5 (i := 11) rfl rfl
theorem kw_972 : (Jvm.Cond.code ({ cls := "NextBenchModel", name := "game", desc := "(III)I" } : Jvm.MethodName) prog_13_method_39_code (8 : Nat) (Option.some Jvm.ClassFile.FieldType.int)) ∈ tbG := tb_5 (i := 12) rfl rfl
theorem kw_973 : (Jvm.Cond.methodLink "NextBenchModel" (169 : Nat) ({ cls := "NextBenchModel", name := "findEnds", desc := "()V" } : Jvm.MethodName)) ∈ tbG := tb_5 (i := 13) rfl rfl
theorem kw_975 : (Jvm.Cond.instanceMethod ({ cls := "NextBenchModel", name := "findEnds", desc := "()V" } : Jvm.MethodName)) ∈ tbG := tb_5 (i := 15) rfl rfl
theorem kw_976 : (Jvm.Cond.code ({ cls := "NextBenchModel", name := "findEnds", desc := "()V" } : Jvm.MethodName) prog_13_method_38_code (7 : Nat) (Option.none : Option Jvm.ClassFile.FieldType)) ∈ tbG := tb_5 (i := 16) rfl rfl
theorem kw_977 : (Jvm.Cond.methodLink "NextBenchLaw" (86 : Nat) ({ cls := "NextBenchModel", name := "pairs", desc := "(I)I" } : Jvm.MethodName)) ∈ tbG := tb_5 (i := 17) rfl rfl
theorem kw_978 : (Jvm.Cond.instanceMethod ({ cls := "NextBenchModel", name := "pairs", desc := "(I)I" } : Jvm.MethodName)) ∈ tbG := tb_5 (i := 18) rfl rfl
theorem kw_979 : (Jvm.Cond.selects "NextBenchModel" ({ cls := "NextBenchModel", name := "pairs", desc := "(I)I" } : Jvm.MethodName) ({ cls := "NextBenchModel", name := "pairs", desc := "(I)I" } : Jvm.MethodName)) ∈ tbG := tb_5 (i := 19) rfl rfl
theorem kw_980 : (Jvm.Cond.code ({ cls := "NextBenchModel", name := "pairs", desc := "(I)I" } : Jvm.MethodName) prog_13_method_44_code (2 : Nat) (Option.some Jvm.ClassFile.FieldType.int)) ∈ tbG := tb_5 (i := 20) rfl rfl
theorem kw_981 : (Jvm.Cond.methodLink "NextBenchModel" (180 : Nat) ({ cls := "NextBenchModel", name := "pairsInTurn", desc := "()I" } : Jvm.MethodName)) ∈ tbG := tb_5 (i := 21) rfl rfl
theorem kw_983 : (Jvm.Cond.instanceMethod ({ cls := "NextBenchModel", name := "pairsInTurn", desc := "()I" } : Jvm.MethodName)) ∈ tbG := tb_5 (i := 23) rfl rfl
theorem kw_984 : (Jvm.Cond.code ({ cls := "NextBenchModel", name := "pairsInTurn", desc := "()I" } : Jvm.MethodName) prog_13_method_41_code (6 : Nat) (Option.some Jvm.ClassFile.FieldType.int)) ∈ tbG := tb_5 (i := 24) rfl rfl
theorem kw_985 : (Jvm.Cond.methodLink "NextBenchModel" (172 : Nat) ({ cls := "NextBenchModel", name := "isPair", desc := "(III)Z" } : Jvm.MethodName)) ∈ tbG := tb_5 (i := 25) rfl rfl
theorem kw_987 : (Jvm.Cond.instanceMethod ({ cls := "NextBenchModel", name := "isPair", desc := "(III)Z" } : Jvm.MethodName)) ∈ tbG := tb_5 (i := 27) rfl rfl
theorem kw_988 : (Jvm.Cond.code ({ cls := "NextBenchModel", name := "isPair", desc := "(III)Z" } : Jvm.MethodName) prog_13_method_40_code (4 : Nat) (Option.some Jvm.ClassFile.FieldType.boolean)) ∈ tbG := tb_5 (i := 28) rfl rfl
theorem kw_989 : (Jvm.Cond.methodLink "NextBenchModel" (183 : Nat) ({ cls := "NextBenchModel", name := "mostPairs", desc := "()I" } : Jvm.MethodName)) ∈ tbG := tb_5 (i := 29) rfl rfl
theorem kw_991 : (Jvm.Cond.instanceMethod ({ cls := "NextBenchModel", name := "mostPairs", desc := "()I" } : Jvm.MethodName)) ∈ tbG := tb_5 (i := 31) rfl rfl
theorem kw_992 : (Jvm.Cond.code ({ cls := "NextBenchModel", name := "mostPairs", desc := "()I" } : Jvm.MethodName) prog_13_method_43_code (4 : Nat) (Option.some Jvm.ClassFile.FieldType.int)) ∈ tbG := tb_5 (i := 32) rfl rfl
theorem kw_993 : (Jvm.Cond.methodLink "NextBenchModel" (176 : Nat) ({ cls := "NextBenchModel", name := "areApart", desc := "(II)Z" } : Jvm.MethodName)) ∈ tbG := tb_5 (i := 33) rfl rfl
theorem kw_995 : (Jvm.Cond.instanceMethod ({ cls := "NextBenchModel", name := "areApart", desc := "(II)Z" } : Jvm.MethodName)) ∈ tbG := tb_5 (i := 35) rfl rfl
theorem kw_996 : (Jvm.Cond.code ({ cls := "NextBenchModel", name := "areApart", desc := "(II)Z" } : Jvm.MethodName) prog_13_method_42_code (7 : Nat) (Option.some Jvm.ClassFile.FieldType.boolean)) ∈ tbG := tb_5 (i := 36) rfl rfl
theorem kw_997 : (Jvm.Cond.methodLink "NextBenchLaw" (90 : Nat) ({ cls := "NextBenchModel", name := "late", desc := "(II)I" } : Jvm.MethodName)) ∈ tbG := tb_5 (i := 37) rfl rfl
theorem kw_998 : (Jvm.Cond.instanceMethod ({ cls := "NextBenchModel", name := "late", desc := "(II)I" } : Jvm.MethodName)) ∈ tbG := tb_5 (i := 38) rfl rfl
theorem kw_999 : (Jvm.Cond.selects "NextBenchModel" ({ cls := "NextBenchModel", name := "late", desc := "(II)I" } : Jvm.MethodName) ({ cls := "NextBenchModel", name := "late", desc := "(II)I" } : Jvm.MethodName)) ∈ tbG := tb_5 (i := 39) rfl rfl
theorem kw_1000 : (Jvm.Cond.code ({ cls := "NextBenchModel", name := "late", desc := "(II)I" } : Jvm.MethodName) prog_13_method_45_code (5 : Nat) (Option.some Jvm.ClassFile.FieldType.int)) ∈ tbG := tb_5 (i := 40) rfl rfl
theorem kw_1001 : (Jvm.Cond.methodLink "NextBenchLaw" (94 : Nat) ({ cls := "NextBenchModel", name := "rows", desc := "(II)I" } : Jvm.MethodName)) ∈ tbG := tb_5 (i := 41) rfl rfl
theorem kw_1002 : (Jvm.Cond.instanceMethod ({ cls := "NextBenchModel", name := "rows", desc := "(II)I" } : Jvm.MethodName)) ∈ tbG := tb_5 (i := 42) rfl rfl
theorem kw_1003 : (Jvm.Cond.selects "NextBenchModel" ({ cls := "NextBenchModel", name := "rows", desc := "(II)I" } : Jvm.MethodName) ({ cls := "NextBenchModel", name := "rows", desc := "(II)I" } : Jvm.MethodName)) ∈ tbG := tb_5 (i := 43) rfl rfl
theorem kw_1004 : (Jvm.Cond.code ({ cls := "NextBenchModel", name := "rows", desc := "(II)I" } : Jvm.MethodName) prog_13_method_48_code (3 : Nat) (Option.some Jvm.ClassFile.FieldType.int)) ∈ tbG := tb_5 (i := 44) rfl rfl
theorem kw_1005 : (Jvm.Cond.constantLong "NextBenchModel" (190 : Nat) (200 : Int64)) ∈ tbG := tb_5 (i := 45) rfl rfl
theorem kw_1006 : (Jvm.Cond.methodLink "NextBenchModel" (192 : Nat) ({ cls := "NextBenchModel", name := "rowsOf", desc := "(II)I" } : Jvm.MethodName)) ∈ tbG := tb_5 (i := 46) rfl rfl
theorem kw_1008 : (Jvm.Cond.instanceMethod ({ cls := "NextBenchModel", name := "rowsOf", desc := "(II)I" } : Jvm.MethodName)) ∈ tbG := tb_5 (i := 48) rfl rfl
theorem kw_1009 : (Jvm.Cond.code ({ cls := "NextBenchModel", name := "rowsOf", desc := "(II)I" } : Jvm.MethodName) prog_13_method_47_code (7 : Nat) (Option.some Jvm.ClassFile.FieldType.int)) ∈ tbG := tb_5 (i := 49) rfl rfl
theorem kw_1010 : (Jvm.Cond.methodLink "NextBenchModel" (186 : Nat) ({ cls := "NextBenchModel", name := "sitIn", desc := "(II)V" } : Jvm.MethodName)) ∈ tbG := tb_5 (i := 50) rfl rfl
theorem kw_1012 : (Jvm.Cond.instanceMethod ({ cls := "NextBenchModel", name := "sitIn", desc := "(II)V" } : Jvm.MethodName)) ∈ tbG := tb_5 (i := 52) rfl rfl
theorem kw_1013 : (Jvm.Cond.code ({ cls := "NextBenchModel", name := "sitIn", desc := "(II)V" } : Jvm.MethodName) prog_13_method_46_code (5 : Nat) (Option.none : Option Jvm.ClassFile.FieldType)) ∈ tbG := tb_5 (i := 53) rfl rfl
theorem kw_1014 : (Jvm.Cond.methodLink "NextBenchLaw" (98 : Nat) ({ cls := "NextBenchModel", name := "longer", desc := "(I)I" } : Jvm.MethodName)) ∈ tbG := tb_5 (i := 54) rfl rfl
theorem kw_1015 : (Jvm.Cond.instanceMethod ({ cls := "NextBenchModel", name := "longer", desc := "(I)I" } : Jvm.MethodName)) ∈ tbG := tb_5 (i := 55) rfl rfl
theorem kw_1016 : (Jvm.Cond.selects "NextBenchModel" ({ cls := "NextBenchModel", name := "longer", desc := "(I)I" } : Jvm.MethodName) ({ cls := "NextBenchModel", name := "longer", desc := "(I)I" } : Jvm.MethodName)) ∈ tbG := tb_5 (i := 56) rfl rfl
theorem kw_1017 : (Jvm.Cond.code ({ cls := "NextBenchModel", name := "longer", desc := "(I)I" } : Jvm.MethodName) prog_13_method_49_code (3 : Nat) (Option.some Jvm.ClassFile.FieldType.int)) ∈ tbG := tb_5 (i := 57) rfl rfl
theorem kw_1018 : (Jvm.Cond.constantLong "NextBenchModel" (195 : Nat) (100 : Int64)) ∈ tbG := tb_5 (i := 58) rfl rfl
theorem kw_1019 : (Jvm.Cond.methodLink "NextBenchLaw" (102 : Nat) ({ cls := "NextBenchModel", name := "arms", desc := "(III)I" } : Jvm.MethodName)) ∈ tbG := tb_5 (i := 59) rfl rfl
theorem kw_1020 : (Jvm.Cond.instanceMethod ({ cls := "NextBenchModel", name := "arms", desc := "(III)I" } : Jvm.MethodName)) ∈ tbG := tb_5 (i := 60) rfl rfl
theorem kw_1021 : (Jvm.Cond.selects "NextBenchModel" ({ cls := "NextBenchModel", name := "arms", desc := "(III)I" } : Jvm.MethodName) ({ cls := "NextBenchModel", name := "arms", desc := "(III)I" } : Jvm.MethodName)) ∈ tbG := tb_5 (i := 61) rfl rfl
theorem kw_1022 : (Jvm.Cond.code ({ cls := "NextBenchModel", name := "arms", desc := "(III)I" } : Jvm.MethodName) prog_13_method_50_code (8 : Nat) (Option.some Jvm.ClassFile.FieldType.int)) ∈ tbG := tb_5 (i := 62) rfl rfl
theorem kw_1023 : (Jvm.Cond.methodLink "NextBenchLaw" (106 : Nat) ({ cls := "NextBenchModel", name := "rests", desc := "(I)I" } : Jvm.MethodName)) ∈ tbG := tb_5 (i := 63) rfl rfl
theorem kw_1024 : (Jvm.Cond.instanceMethod ({ cls := "NextBenchModel", name := "rests", desc := "(I)I" } : Jvm.MethodName)) ∈ tbG := tb_5 (i := 64) rfl rfl
theorem kw_1025 : (Jvm.Cond.selects "NextBenchModel" ({ cls := "NextBenchModel", name := "rests", desc := "(I)I" } : Jvm.MethodName) ({ cls := "NextBenchModel", name := "rests", desc := "(I)I" } : Jvm.MethodName)) ∈ tbG := tb_5 (i := 65) rfl rfl
theorem kw_1026 : (Jvm.Cond.code ({ cls := "NextBenchModel", name := "rests", desc := "(I)I" } : Jvm.MethodName) prog_13_method_51_code (8 : Nat) (Option.some Jvm.ClassFile.FieldType.int)) ∈ tbG := tb_5 (i := 66) rfl rfl
theorem kw_1027 : (Jvm.Cond.methodLink "NextBenchLaw" (111 : Nat) ({ cls := "NextBenchModel", name := "minutes", desc := "(IIIII)J" } : Jvm.MethodName)) ∈ tbG := tb_5 (i := 67) rfl rfl
theorem kw_1028 : (Jvm.Cond.instanceMethod ({ cls := "NextBenchModel", name := "minutes", desc := "(IIIII)J" } : Jvm.MethodName)) ∈ tbG := tb_5 (i := 68) rfl rfl
theorem kw_1029 : (Jvm.Cond.selects "NextBenchModel" ({ cls := "NextBenchModel", name := "minutes", desc := "(IIIII)J" } : Jvm.MethodName) ({ cls := "NextBenchModel", name := "minutes", desc := "(IIIII)J" } : Jvm.MethodName)) ∈ tbG := tb_5 (i := 69) rfl rfl
theorem kw_1030 : (Jvm.Cond.code ({ cls := "NextBenchModel", name := "minutes", desc := "(IIIII)J" } : Jvm.MethodName) prog_13_method_55_code (10 : Nat) (Option.some Jvm.ClassFile.FieldType.long)) ∈ tbG := tb_5 (i := 70) rfl rfl
theorem kw_1031 : (Jvm.Cond.methodLink "NextBenchModel" (210 : Nat) ({ cls := "NextBenchModel", name := "refuseMinutes", desc := "(IIIII)I" } : Jvm.MethodName)) ∈ tbG := tb_5 (i := 71) rfl rfl
theorem kw_1033 : (Jvm.Cond.instanceMethod ({ cls := "NextBenchModel", name := "refuseMinutes", desc := "(IIIII)I" } : Jvm.MethodName)) ∈ tbG := tb_5 (i := 73) rfl rfl
theorem kw_1034 : (Jvm.Cond.code ({ cls := "NextBenchModel", name := "refuseMinutes", desc := "(IIIII)I" } : Jvm.MethodName) prog_13_method_54_code (6 : Nat) (Option.some Jvm.ClassFile.FieldType.int)) ∈ tbG := tb_5 (i := 74) rfl rfl
theorem kw_1035 : (Jvm.Cond.constantLong "NextBenchModel" (214 : Nat) (-1000000000000000000 : Int64)) ∈ tbG := tb_5 (i := 75) rfl rfl
theorem kw_1036 : (Jvm.Cond.methodLink "NextBenchModel" (216 : Nat) ({ cls := "NextBenchModel", name := "passMinutes", desc := "(III)V" } : Jvm.MethodName)) ∈ tbG := tb_5 (i := 76) rfl rfl
theorem kw_1038 : (Jvm.Cond.instanceMethod ({ cls := "NextBenchModel", name := "passMinutes", desc := "(III)V" } : Jvm.MethodName)) ∈ tbG := tb_5 (i := 78) rfl rfl
theorem kw_1039 : (Jvm.Cond.code ({ cls := "NextBenchModel", name := "passMinutes", desc := "(III)V" } : Jvm.MethodName) prog_13_method_52_code (7 : Nat) (Option.none : Option Jvm.ClassFile.FieldType)) ∈ tbG := tb_5 (i := 79) rfl rfl
theorem kw_1040 : (Jvm.Cond.constantLong "NextBenchModel" (203 : Nat) (55440 : Int64)) ∈ tbG := tb_5 (i := 80) rfl rfl
theorem kw_1041 : (Jvm.Cond.methodLink "NextBenchModel" (205 : Nat) ({ cls := "NextBenchModel", name := "passOne", desc := "(II)V" } : Jvm.MethodName)) ∈ tbG := tb_5 (i := 81) rfl rfl
theorem kw_1043 : (Jvm.Cond.instanceMethod ({ cls := "NextBenchModel", name := "passOne", desc := "(II)V" } : Jvm.MethodName)) ∈ tbG := tb_5 (i := 83) rfl rfl
theorem kw_1044 : (Jvm.Cond.code ({ cls := "NextBenchModel", name := "passOne", desc := "(II)V" } : Jvm.MethodName) prog_13_method_53_code (6 : Nat) (Option.none : Option Jvm.ClassFile.FieldType)) ∈ tbG := tb_5 (i := 84) rfl rfl
theorem kw_1045 : (Jvm.Cond.constantLong "NextBenchModel" (208 : Nat) (27720 : Int64)) ∈ tbG := tb_5 (i := 85) rfl rfl
theorem kw_1046 : (Jvm.Cond.methodLink "NextBenchLaw" (116 : Nat) ({ cls := "NextBenchModel", name := "away", desc := "(IIII)J" } : Jvm.MethodName)) ∈ tbG := tb_5 (i := 86) rfl rfl
theorem kw_1047 : (Jvm.Cond.instanceMethod ({ cls := "NextBenchModel", name := "away", desc := "(IIII)J" } : Jvm.MethodName)) ∈ tbG := tb_5 (i := 87) rfl rfl
theorem kw_1048 : (Jvm.Cond.selects "NextBenchModel" ({ cls := "NextBenchModel", name := "away", desc := "(IIII)J" } : Jvm.MethodName) ({ cls := "NextBenchModel", name := "away", desc := "(IIII)J" } : Jvm.MethodName)) ∈ tbG := tb_5 (i := 88) rfl rfl
theorem kw_1049 : (Jvm.Cond.code ({ cls := "NextBenchModel", name := "away", desc := "(IIII)J" } : Jvm.MethodName) prog_13_method_56_code (6 : Nat) (Option.some Jvm.ClassFile.FieldType.long)) ∈ tbG := tb_5 (i := 89) rfl rfl
theorem kw_1050 : (Jvm.Cond.methodLink "NextBenchLaw" (120 : Nat) ({ cls := "NextBenchModel", name := "come", desc := "(I)I" } : Jvm.MethodName)) ∈ tbG := tb_5 (i := 90) rfl rfl
theorem kw_1051 : (Jvm.Cond.instanceMethod ({ cls := "NextBenchModel", name := "come", desc := "(I)I" } : Jvm.MethodName)) ∈ tbG := tb_5 (i := 91) rfl rfl
theorem kw_1052 : (Jvm.Cond.selects "NextBenchModel" ({ cls := "NextBenchModel", name := "come", desc := "(I)I" } : Jvm.MethodName) ({ cls := "NextBenchModel", name := "come", desc := "(I)I" } : Jvm.MethodName)) ∈ tbG := tb_5 (i := 92) rfl rfl
theorem kw_1053 : (Jvm.Cond.code ({ cls := "NextBenchModel", name := "come", desc := "(I)I" } : Jvm.MethodName) prog_13_method_57_code (2 : Nat) (Option.some Jvm.ClassFile.FieldType.int)) ∈ tbG := tb_5 (i := 93) rfl rfl
theorem kw_1054 : (Jvm.Cond.methodLink "NextBenchLaw" (124 : Nat) ({ cls := "NextBenchModel", name := "forget", desc := "()I" } : Jvm.MethodName)) ∈ tbG := tb_5 (i := 94) rfl rfl
theorem kw_1055 : (Jvm.Cond.instanceMethod ({ cls := "NextBenchModel", name := "forget", desc := "()I" } : Jvm.MethodName)) ∈ tbG := tb_5 (i := 95) rfl rfl
theorem kw_1056 : (Jvm.Cond.selects "NextBenchModel" ({ cls := "NextBenchModel", name := "forget", desc := "()I" } : Jvm.MethodName) ({ cls := "NextBenchModel", name := "forget", desc := "()I" } : Jvm.MethodName)) ∈ tbG := tb_5 (i := 96) rfl rfl
theorem kw_1057 : (Jvm.Cond.code ({ cls := "NextBenchModel", name := "forget", desc := "()I" } : Jvm.MethodName) prog_13_method_58_code (2 : Nat) (Option.some Jvm.ClassFile.FieldType.int)) ∈ tbG := tb_5 (i := 97) rfl rfl
theorem kw_1058 : (Jvm.Cond.methodLink "NextBenchLaw" (128 : Nat) ({ cls := "NextBenchModel", name := "sits", desc := "(I)I" } : Jvm.MethodName)) ∈ tbG := tb_5 (i := 98) rfl rfl
theorem kw_1059 : (Jvm.Cond.instanceMethod ({ cls := "NextBenchModel", name := "sits", desc := "(I)I" } : Jvm.MethodName)) ∈ tbG := tb_5 (i := 99) rfl rfl
theorem kw_1060 : (Jvm.Cond.selects "NextBenchModel" ({ cls := "NextBenchModel", name := "sits", desc := "(I)I" } : Jvm.MethodName) ({ cls := "NextBenchModel", name := "sits", desc := "(I)I" } : Jvm.MethodName)) ∈ tbG := tb_5 (i := 100) rfl rfl
theorem kw_1061 : (Jvm.Cond.code ({ cls := "NextBenchModel", name := "sits", desc := "(I)I" } : Jvm.MethodName) prog_13_method_59_code (5 : Nat) (Option.some Jvm.ClassFile.FieldType.int)) ∈ tbG := tb_5 (i := 101) rfl rfl
theorem kw_1062 : (Jvm.Cond.methodLink "NextBenchLaw" (132 : Nat) ({ cls := "NextBenchModel", name := "begin", desc := "()I" } : Jvm.MethodName)) ∈ tbG := tb_5 (i := 102) rfl rfl
theorem kw_1063 : (Jvm.Cond.instanceMethod ({ cls := "NextBenchModel", name := "begin", desc := "()I" } : Jvm.MethodName)) ∈ tbG := tb_5 (i := 103) rfl rfl
theorem kw_1064 : (Jvm.Cond.selects "NextBenchModel" ({ cls := "NextBenchModel", name := "begin", desc := "()I" } : Jvm.MethodName) ({ cls := "NextBenchModel", name := "begin", desc := "()I" } : Jvm.MethodName)) ∈ tbG := tb_5 (i := 104) rfl rfl
theorem kw_1065 : (Jvm.Cond.code ({ cls := "NextBenchModel", name := "begin", desc := "()I" } : Jvm.MethodName) prog_13_method_60_code (1 : Nat) (Option.some Jvm.ClassFile.FieldType.int)) ∈ tbG := tb_5 (i := 105) rfl rfl
theorem kw_1066 : (Jvm.Cond.methodLink "NextBenchLaw" (136 : Nat) ({ cls := "NextBenchModel", name := "see", desc := "(I)I" } : Jvm.MethodName)) ∈ tbG := tb_5 (i := 106) rfl rfl
theorem kw_1067 : (Jvm.Cond.instanceMethod ({ cls := "NextBenchModel", name := "see", desc := "(I)I" } : Jvm.MethodName)) ∈ tbG := tb_5 (i := 107) rfl rfl
theorem kw_1068 : (Jvm.Cond.selects "NextBenchModel" ({ cls := "NextBenchModel", name := "see", desc := "(I)I" } : Jvm.MethodName) ({ cls := "NextBenchModel", name := "see", desc := "(I)I" } : Jvm.MethodName)) ∈ tbG := tb_5 (i := 108) rfl rfl
theorem kw_1069 : (Jvm.Cond.code ({ cls := "NextBenchModel", name := "see", desc := "(I)I" } : Jvm.MethodName) prog_13_method_62_code (3 : Nat) (Option.some Jvm.ClassFile.FieldType.int)) ∈ tbG := tb_5 (i := 109) rfl rfl
theorem kw_1070 : (Jvm.Cond.methodLink "NextBenchModel" (222 : Nat) ({ cls := "NextBenchModel", name := "seenSet", desc := "(II)I" } : Jvm.MethodName)) ∈ tbG := tb_5 (i := 110) rfl rfl
theorem kw_1072 : (Jvm.Cond.instanceMethod ({ cls := "NextBenchModel", name := "seenSet", desc := "(II)I" } : Jvm.MethodName)) ∈ tbG := tb_5 (i := 112) rfl rfl
theorem kw_1073 : (Jvm.Cond.code ({ cls := "NextBenchModel", name := "seenSet", desc := "(II)I" } : Jvm.MethodName) prog_13_method_61_code (5 : Nat) (Option.some Jvm.ClassFile.FieldType.int)) ∈ tbG := tb_5 (i := 113) rfl rfl
theorem kw_1074 : (Jvm.Cond.methodLink "NextBenchLaw" (140 : Nat) ({ cls := "NextBenchModel", name := "fits", desc := "()I" } : Jvm.MethodName)) ∈ tbG := tb_5 (i := 114) rfl rfl
theorem kw_1075 : (Jvm.Cond.instanceMethod ({ cls := "NextBenchModel", name := "fits", desc := "()I" } : Jvm.MethodName)) ∈ tbG := tb_5 (i := 115) rfl rfl
theorem kw_1076 : (Jvm.Cond.selects "NextBenchModel" ({ cls := "NextBenchModel", name := "fits", desc := "()I" } : Jvm.MethodName) ({ cls := "NextBenchModel", name := "fits", desc := "()I" } : Jvm.MethodName)) ∈ tbG := tb_5 (i := 116) rfl rfl
theorem kw_1077 : (Jvm.Cond.code ({ cls := "NextBenchModel", name := "fits", desc := "()I" } : Jvm.MethodName) prog_13_method_64_code (3 : Nat) (Option.some Jvm.ClassFile.FieldType.int)) ∈ tbG := tb_5 (i := 117) rfl rfl
theorem kw_1078 : (Jvm.Cond.methodLink "NextBenchModel" (225 : Nat) ({ cls := "NextBenchModel", name := "judged", desc := "(I)I" } : Jvm.MethodName)) ∈ tbG := tb_5 (i := 118) rfl rfl
theorem kw_1080 : (Jvm.Cond.instanceMethod ({ cls := "NextBenchModel", name := "judged", desc := "(I)I" } : Jvm.MethodName)) ∈ tbG := tb_5 (i := 120) rfl rfl
theorem kw_1081 : (Jvm.Cond.code ({ cls := "NextBenchModel", name := "judged", desc := "(I)I" } : Jvm.MethodName) prog_13_method_63_code (4 : Nat) (Option.some Jvm.ClassFile.FieldType.int)) ∈ tbG := tb_5 (i := 121) rfl rfl
theorem kw_1082 : (Jvm.Cond.methodLink "NextBenchLaw" (144 : Nat) ({ cls := "NextBenchModel", name := "judge", desc := "(I)I" } : Jvm.MethodName)) ∈ tbG := tb_5 (i := 122) rfl rfl
theorem kw_1083 : (Jvm.Cond.instanceMethod ({ cls := "NextBenchModel", name := "judge", desc := "(I)I" } : Jvm.MethodName)) ∈ tbG := tb_5 (i := 123) rfl rfl
theorem kw_1084 : (Jvm.Cond.selects "NextBenchModel" ({ cls := "NextBenchModel", name := "judge", desc := "(I)I" } : Jvm.MethodName) ({ cls := "NextBenchModel", name := "judge", desc := "(I)I" } : Jvm.MethodName)) ∈ tbG := tb_5 (i := 124) rfl rfl
theorem kw_1085 : (Jvm.Cond.code ({ cls := "NextBenchModel", name := "judge", desc := "(I)I" } : Jvm.MethodName) prog_13_method_65_code (2 : Nat) (Option.some Jvm.ClassFile.FieldType.int)) ∈ tbG := tb_5 (i := 125) rfl rfl
theorem kw_1086 : (Jvm.Cond.methodLink "NextBenchLaw" (148 : Nat) ({ cls := "NextBenchModel", name := "image", desc := "(I)I" } : Jvm.MethodName)) ∈ tbG := tb_5 (i := 126) rfl rfl
theorem kw_1087 : (Jvm.Cond.instanceMethod ({ cls := "NextBenchModel", name := "image", desc := "(I)I" } : Jvm.MethodName)) ∈ tbG := tb_5 (i := 127) rfl rfl
theorem kw_1088 : (Jvm.Cond.selects "NextBenchModel" ({ cls := "NextBenchModel", name := "image", desc := "(I)I" } : Jvm.MethodName) ({ cls := "NextBenchModel", name := "image", desc := "(I)I" } : Jvm.MethodName)) ∈ tbG := tb_5 (i := 128) rfl rfl
theorem kw_1089 : (Jvm.Cond.code ({ cls := "NextBenchModel", name := "image", desc := "(I)I" } : Jvm.MethodName) prog_13_method_68_code (2 : Nat) (Option.some Jvm.ClassFile.FieldType.int)) ∈ tbG := tb_5 (i := 129) rfl rfl
theorem kw_1090 : (Jvm.Cond.methodLink "NextBenchModel" (238 : Nat) ({ cls := "NextBenchModel", name := "passAll", desc := "()V" } : Jvm.MethodName)) ∈ tbG := tb_5 (i := 130) rfl rfl
theorem kw_1092 : (Jvm.Cond.instanceMethod ({ cls := "NextBenchModel", name := "passAll", desc := "()V" } : Jvm.MethodName)) ∈ tbG := tb_5 (i := 132) rfl rfl
theorem kw_1093 : (Jvm.Cond.code ({ cls := "NextBenchModel", name := "passAll", desc := "()V" } : Jvm.MethodName) prog_13_method_67_code (2 : Nat) (Option.none : Option Jvm.ClassFile.FieldType)) ∈ tbG := tb_5 (i := 133) rfl rfl
theorem kw_1094 : (Jvm.Cond.methodLink "NextBenchModel" (235 : Nat) ({ cls := "NextBenchModel", name := "pass", desc := "(I)I" } : Jvm.MethodName)) ∈ tbG := tb_5 (i := 134) rfl rfl
theorem kw_1096 : (Jvm.Cond.instanceMethod ({ cls := "NextBenchModel", name := "pass", desc := "(I)I" } : Jvm.MethodName)) ∈ tbG := tb_5 (i := 136) rfl rfl
theorem kw_1097 : (Jvm.Cond.code ({ cls := "NextBenchModel", name := "pass", desc := "(I)I" } : Jvm.MethodName) prog_13_method_66_code (3 : Nat) (Option.some Jvm.ClassFile.FieldType.int)) ∈ tbG := tb_5 (i := 137) rfl rfl
theorem kw_1098 : (Jvm.Cond.methodLink "NextBenchLaw" (152 : Nat) ({ cls := "NextBenchModel", name := "restore", desc := "(I)I" } : Jvm.MethodName)) ∈ tbG := tb_5 (i := 138) rfl rfl
theorem kw_1099 : (Jvm.Cond.instanceMethod ({ cls := "NextBenchModel", name := "restore", desc := "(I)I" } : Jvm.MethodName)) ∈ tbG := tb_5 (i := 139) rfl rfl
theorem kw_1100 : (Jvm.Cond.selects "NextBenchModel" ({ cls := "NextBenchModel", name := "restore", desc := "(I)I" } : Jvm.MethodName) ({ cls := "NextBenchModel", name := "restore", desc := "(I)I" } : Jvm.MethodName)) ∈ tbG := tb_5 (i := 140) rfl rfl
theorem kw_1101 : (Jvm.Cond.code ({ cls := "NextBenchModel", name := "restore", desc := "(I)I" } : Jvm.MethodName) prog_13_method_69_code (2 : Nat) (Option.some Jvm.ClassFile.FieldType.int)) ∈ tbG := tb_5 (i := 141) rfl rfl
theorem kw_1102 : (Jvm.Cond.methodLink "NextBenchLaw" (156 : Nat) ({ cls := "NextBenchModel", name := "told", desc := "(I)I" } : Jvm.MethodName)) ∈ tbG := tb_5 (i := 142) rfl rfl
theorem kw_1103 : (Jvm.Cond.instanceMethod ({ cls := "NextBenchModel", name := "told", desc := "(I)I" } : Jvm.MethodName)) ∈ tbG := tb_5 (i := 143) rfl rfl
theorem kw_1104 : (Jvm.Cond.selects "NextBenchModel" ({ cls := "NextBenchModel", name := "told", desc := "(I)I" } : Jvm.MethodName) ({ cls := "NextBenchModel", name := "told", desc := "(I)I" } : Jvm.MethodName)) ∈ tbG := tb_5 (i := 144) rfl rfl
theorem kw_1105 : (Jvm.Cond.code ({ cls := "NextBenchModel", name := "told", desc := "(I)I" } : Jvm.MethodName) prog_13_method_70_code (2 : Nat) (Option.some Jvm.ClassFile.FieldType.int)) ∈ tbG := tb_5 (i := 145) rfl rfl
theorem kw_1106 : (Jvm.Cond.constantLong "NextBenchModel" (241 : Nat) (10 : Int64)) ∈ tbG := tb_5 (i := 146) rfl rfl
theorem kw_1107 : (Jvm.Cond.constantLong "NextBenchModel" (243 : Nat) (21 : Int64)) ∈ tbG := tb_5 (i := 147) rfl rfl
theorem ks_0 : Cond.selects "NextBench$Bench" ⟨"NextBench$Bench", "walkOn", "(II)V"⟩ ⟨"NextBench$Bench", "walkOn", "(II)V"⟩ ∈ tbG := tb_s1 (i := 0) (q := (⟨"NextBench$Bench", "walkOn", "(II)V"⟩, _)) rfl
theorem ks_1 : Cond.selects "NextBench$Bench" ⟨"NextBench$Bench", "lookRound", "(I)V"⟩ ⟨"NextBench$Bench", "lookRound", "(I)V"⟩ ∈ tbG := tb_s1 (i := 1) (q := (⟨"NextBench$Bench", "lookRound", "(I)V"⟩, _)) rfl
theorem ks_2 : Cond.selects "NextBench" ⟨"NextBench", "renew", "()V"⟩ ⟨"NextBench", "renew", "()V"⟩ ∈ tbG := tb_s1 (i := 2) (q := (⟨"NextBench", "renew", "()V"⟩, _)) rfl
theorem ks_3 : Cond.selects "NextBench" ⟨"NextBench", "isSeat", "(I)Z"⟩ ⟨"NextBench", "isSeat", "(I)Z"⟩ ∈ tbG := tb_s1 (i := 3) (q := (⟨"NextBench", "isSeat", "(I)Z"⟩, _)) rfl
theorem ks_4 : Cond.selects "NextBench" ⟨"NextBench", "seatAll", "(I)I"⟩ ⟨"NextBench", "seatAll", "(I)I"⟩ ∈ tbG := tb_s1 (i := 4) (q := (⟨"NextBench", "seatAll", "(I)I"⟩, _)) rfl
theorem ks_5 : Cond.selects "NextBench$Sitters" ⟨"NextBench$Sitters", "wishFor", "(II)I"⟩ ⟨"NextBench$Sitters", "wishFor", "(II)I"⟩ ∈ tbG := tb_s1 (i := 5) (q := (⟨"NextBench$Sitters", "wishFor", "(II)I"⟩, _)) rfl
theorem ks_6 : Cond.selects "NextBench$Census" ⟨"NextBench$Census", "note", "(II)V"⟩ ⟨"NextBench$Census", "note", "(II)V"⟩ ∈ tbG := tb_s1 (i := 6) (q := (⟨"NextBench$Census", "note", "(II)V"⟩, _)) rfl
theorem ks_7 : Cond.selects "NextBench" ⟨"NextBench", "comeInAfter", "(II)I"⟩ ⟨"NextBench", "comeInAfter", "(II)I"⟩ ∈ tbG := tb_s1 (i := 7) (q := (⟨"NextBench", "comeInAfter", "(II)I"⟩, _)) rfl
theorem ks_8 : Cond.selects "NextBench$Match" ⟨"NextBench$Match", "settle", "(III)V"⟩ ⟨"NextBench$Match", "settle", "(III)V"⟩ ∈ tbG := tb_s1 (i := 8) (q := (⟨"NextBench$Match", "settle", "(III)V"⟩, _)) rfl
theorem ks_9 : Cond.selects "NextBench$LongRows" ⟨"NextBench$LongRows", "beyond", "(I)I"⟩ ⟨"NextBench$LongRows", "beyond", "(I)I"⟩ ∈ tbG := tb_s1 (i := 9) (q := (⟨"NextBench$LongRows", "beyond", "(I)I"⟩, _)) rfl
theorem ks_10 : Cond.selects "NextBench" ⟨"NextBench", "bestPlaces", "(II)I"⟩ ⟨"NextBench", "bestPlaces", "(II)I"⟩ ∈ tbG := tb_s1 (i := 10) (q := (⟨"NextBench", "bestPlaces", "(II)I"⟩, _)) rfl
theorem ks_11 : Cond.selects "NextBench" ⟨"NextBench", "worthOfArms", "(II)J"⟩ ⟨"NextBench", "worthOfArms", "(II)J"⟩ ∈ tbG := tb_s1 (i := 11) (q := (⟨"NextBench", "worthOfArms", "(II)J"⟩, _)) rfl
theorem ks_12 : Cond.selects "NextBench" ⟨"NextBench", "comeInWithArms", "(II)I"⟩ ⟨"NextBench", "comeInWithArms", "(II)I"⟩ ∈ tbG := tb_s1 (i := 12) (q := (⟨"NextBench", "comeInWithArms", "(II)I"⟩, _)) rfl
theorem ks_13 : Cond.selects "NextBench$Sets" ⟨"NextBench$Sets", "sumWithin", "(LNextBench$Bench;I)J"⟩ ⟨"NextBench$Sets", "sumWithin", "(LNextBench$Bench;I)J"⟩ ∈ tbG := tb_s1 (i := 13) (q := (⟨"NextBench$Sets", "sumWithin", "(LNextBench$Bench;I)J"⟩, _)) rfl
theorem ks_14 : Cond.selects "NextBench" ⟨"NextBench", "letPass", "(IIII)I"⟩ ⟨"NextBench", "letPass", "(IIII)I"⟩ ∈ tbG := tb_s1 (i := 14) (q := (⟨"NextBench", "letPass", "(IIII)I"⟩, _)) rfl
theorem ks_15 : Cond.selects "NextBench$Passing" ⟨"NextBench$Passing", "go", "(IIJ)V"⟩ ⟨"NextBench$Passing", "go", "(IIJ)V"⟩ ∈ tbG := tb_s1 (i := 15) (q := (⟨"NextBench$Passing", "go", "(IIJ)V"⟩, _)) rfl
theorem ks_16 : Cond.selects "NextBench$Passing" ⟨"NextBench$Passing", "oneComes", "(IIJ)V"⟩ ⟨"NextBench$Passing", "oneComes", "(IIJ)V"⟩ ∈ tbG := tb_s2 (i := 0) (q := (⟨"NextBench$Passing", "oneComes", "(IIJ)V"⟩, _)) rfl
theorem ks_17 : Cond.selects "NextBench$Passing" ⟨"NextBench$Passing", "oneGoes", "(IIJ)V"⟩ ⟨"NextBench$Passing", "oneGoes", "(IIJ)V"⟩ ∈ tbG := tb_s2 (i := 1) (q := (⟨"NextBench$Passing", "oneGoes", "(IIJ)V"⟩, _)) rfl
theorem ks_18 : Cond.selects "NextBench" ⟨"NextBench", "seatSeenRow", "(I)V"⟩ ⟨"NextBench", "seatSeenRow", "(I)V"⟩ ∈ tbG := tb_s2 (i := 2) (q := (⟨"NextBench", "seatSeenRow", "(I)V"⟩, _)) rfl
theorem ks_19 : Cond.selects "NextBench" ⟨"NextBench", "firstMisfit", "(I)I"⟩ ⟨"NextBench", "firstMisfit", "(I)I"⟩ ∈ tbG := tb_s2 (i := 3) (q := (⟨"NextBench", "firstMisfit", "(I)I"⟩, _)) rfl
theorem ks_20 : Cond.selects "NextBench" ⟨"NextBench", "worthTold", "(I)I"⟩ ⟨"NextBench", "worthTold", "(I)I"⟩ ∈ tbG := tb_s2 (i := 4) (q := (⟨"NextBench", "worthTold", "(I)I"⟩, _)) rfl
theorem ks_21 : Cond.selects "NextBenchModel" ⟨"NextBenchModel", "findFar", "(I)V"⟩ ⟨"NextBenchModel", "findFar", "(I)V"⟩ ∈ tbG := tb_s2 (i := 5) (q := (⟨"NextBenchModel", "findFar", "(I)V"⟩, _)) rfl
theorem ks_22 : Cond.selects "NextBenchModel" ⟨"NextBenchModel", "link", "(III)V"⟩ ⟨"NextBenchModel", "link", "(III)V"⟩ ∈ tbG := tb_s2 (i := 6) (q := (⟨"NextBenchModel", "link", "(III)V"⟩, _)) rfl
theorem ks_23 : Cond.selects "NextBenchModel" ⟨"NextBenchModel", "isSeat", "(I)Z"⟩ ⟨"NextBenchModel", "isSeat", "(I)Z"⟩ ∈ tbG := tb_s2 (i := 7) (q := (⟨"NextBenchModel", "isSeat", "(I)Z"⟩, _)) rfl
theorem ks_24 : Cond.selects "NextBenchModel" ⟨"NextBenchModel", "isSet", "(I)Z"⟩ ⟨"NextBenchModel", "isSet", "(I)Z"⟩ ∈ tbG := tb_s2 (i := 8) (q := (⟨"NextBenchModel", "isSet", "(I)Z"⟩, _)) rfl
theorem ks_25 : Cond.selects "NextBenchModel" ⟨"NextBenchModel", "isFilled", "(I)Z"⟩ ⟨"NextBenchModel", "isFilled", "(I)Z"⟩ ∈ tbG := tb_s2 (i := 9) (q := (⟨"NextBenchModel", "isFilled", "(I)Z"⟩, _)) rfl
theorem ks_26 : Cond.selects "NextBenchModel" ⟨"NextBenchModel", "awayOf", "(II)I"⟩ ⟨"NextBenchModel", "awayOf", "(II)I"⟩ ∈ tbG := tb_s2 (i := 10) (q := (⟨"NextBenchModel", "awayOf", "(II)I"⟩, _)) rfl
theorem ks_27 : Cond.selects "NextBenchModel" ⟨"NextBenchModel", "mayOf", "(I)I"⟩ ⟨"NextBenchModel", "mayOf", "(I)I"⟩ ∈ tbG := tb_s2 (i := 11) (q := (⟨"NextBenchModel", "mayOf", "(I)I"⟩, _)) rfl
theorem ks_28 : Cond.selects "NextBenchModel" ⟨"NextBenchModel", "takenBy", "(II)I"⟩ ⟨"NextBenchModel", "takenBy", "(II)I"⟩ ∈ tbG := tb_s2 (i := 12) (q := (⟨"NextBenchModel", "takenBy", "(II)I"⟩, _)) rfl
theorem ks_29 : Cond.selects "NextBenchModel" ⟨"NextBenchModel", "rankOf", "(III)I"⟩ ⟨"NextBenchModel", "rankOf", "(III)I"⟩ ∈ tbG := tb_s2 (i := 13) (q := (⟨"NextBenchModel", "rankOf", "(III)I"⟩, _)) rfl
theorem ks_30 : Cond.selects "NextBenchModel" ⟨"NextBenchModel", "nearOnes", "(I)I"⟩ ⟨"NextBenchModel", "nearOnes", "(I)I"⟩ ∈ tbG := tb_s2 (i := 14) (q := (⟨"NextBenchModel", "nearOnes", "(I)I"⟩, _)) rfl
theorem ks_31 : Cond.selects "NextBenchModel" ⟨"NextBenchModel", "filledBy", "(II)I"⟩ ⟨"NextBenchModel", "filledBy", "(II)I"⟩ ∈ tbG := tb_s2 (i := 15) (q := (⟨"NextBenchModel", "filledBy", "(II)I"⟩, _)) rfl
theorem ks_32 : Cond.selects "NextBenchModel" ⟨"NextBenchModel", "findMays", "()I"⟩ ⟨"NextBenchModel", "findMays", "()I"⟩ ∈ tbG := tb_s3 (i := 0) (q := (⟨"NextBenchModel", "findMays", "()I"⟩, _)) rfl
theorem ks_33 : Cond.selects "NextBenchModel" ⟨"NextBenchModel", "findAny", "()V"⟩ ⟨"NextBenchModel", "findAny", "()V"⟩ ∈ tbG := tb_s3 (i := 1) (q := (⟨"NextBenchModel", "findAny", "()V"⟩, _)) rfl
theorem ks_34 : Cond.selects "NextBenchModel" ⟨"NextBenchModel", "meanUpper", "()J"⟩ ⟨"NextBenchModel", "meanUpper", "()J"⟩ ∈ tbG := tb_s3 (i := 2) (q := (⟨"NextBenchModel", "meanUpper", "()J"⟩, _)) rfl
theorem ks_35 : Cond.selects "NextBenchModel" ⟨"NextBenchModel", "findEnds", "()V"⟩ ⟨"NextBenchModel", "findEnds", "()V"⟩ ∈ tbG := tb_s3 (i := 3) (q := (⟨"NextBenchModel", "findEnds", "()V"⟩, _)) rfl
theorem ks_36 : Cond.selects "NextBenchModel" ⟨"NextBenchModel", "pairsInTurn", "()I"⟩ ⟨"NextBenchModel", "pairsInTurn", "()I"⟩ ∈ tbG := tb_s3 (i := 4) (q := (⟨"NextBenchModel", "pairsInTurn", "()I"⟩, _)) rfl
theorem ks_37 : Cond.selects "NextBenchModel" ⟨"NextBenchModel", "isPair", "(III)Z"⟩ ⟨"NextBenchModel", "isPair", "(III)Z"⟩ ∈ tbG := tb_s3 (i := 5) (q := (⟨"NextBenchModel", "isPair", "(III)Z"⟩, _)) rfl
theorem ks_38 : Cond.selects "NextBenchModel" ⟨"NextBenchModel", "mostPairs", "()I"⟩ ⟨"NextBenchModel", "mostPairs", "()I"⟩ ∈ tbG := tb_s3 (i := 6) (q := (⟨"NextBenchModel", "mostPairs", "()I"⟩, _)) rfl
theorem ks_39 : Cond.selects "NextBenchModel" ⟨"NextBenchModel", "areApart", "(II)Z"⟩ ⟨"NextBenchModel", "areApart", "(II)Z"⟩ ∈ tbG := tb_s3 (i := 7) (q := (⟨"NextBenchModel", "areApart", "(II)Z"⟩, _)) rfl
theorem ks_40 : Cond.selects "NextBenchModel" ⟨"NextBenchModel", "rowsOf", "(II)I"⟩ ⟨"NextBenchModel", "rowsOf", "(II)I"⟩ ∈ tbG := tb_s3 (i := 8) (q := (⟨"NextBenchModel", "rowsOf", "(II)I"⟩, _)) rfl
theorem ks_41 : Cond.selects "NextBenchModel" ⟨"NextBenchModel", "sitIn", "(II)V"⟩ ⟨"NextBenchModel", "sitIn", "(II)V"⟩ ∈ tbG := tb_s3 (i := 9) (q := (⟨"NextBenchModel", "sitIn", "(II)V"⟩, _)) rfl
theorem ks_42 : Cond.selects "NextBenchModel" ⟨"NextBenchModel", "refuseMinutes", "(IIIII)I"⟩ ⟨"NextBenchModel", "refuseMinutes", "(IIIII)I"⟩ ∈ tbG := tb_s3 (i := 10) (q := (⟨"NextBenchModel", "refuseMinutes", "(IIIII)I"⟩, _)) rfl
theorem ks_43 : Cond.selects "NextBenchModel" ⟨"NextBenchModel", "passMinutes", "(III)V"⟩ ⟨"NextBenchModel", "passMinutes", "(III)V"⟩ ∈ tbG := tb_s3 (i := 11) (q := (⟨"NextBenchModel", "passMinutes", "(III)V"⟩, _)) rfl
theorem ks_44 : Cond.selects "NextBenchModel" ⟨"NextBenchModel", "passOne", "(II)V"⟩ ⟨"NextBenchModel", "passOne", "(II)V"⟩ ∈ tbG := tb_s3 (i := 12) (q := (⟨"NextBenchModel", "passOne", "(II)V"⟩, _)) rfl
theorem ks_45 : Cond.selects "NextBenchModel" ⟨"NextBenchModel", "seenSet", "(II)I"⟩ ⟨"NextBenchModel", "seenSet", "(II)I"⟩ ∈ tbG := tb_s3 (i := 13) (q := (⟨"NextBenchModel", "seenSet", "(II)I"⟩, _)) rfl
theorem ks_46 : Cond.selects "NextBenchModel" ⟨"NextBenchModel", "judged", "(I)I"⟩ ⟨"NextBenchModel", "judged", "(I)I"⟩ ∈ tbG := tb_s3 (i := 14) (q := (⟨"NextBenchModel", "judged", "(I)I"⟩, _)) rfl
theorem ks_47 : Cond.selects "NextBenchModel" ⟨"NextBenchModel", "passAll", "()V"⟩ ⟨"NextBenchModel", "passAll", "()V"⟩ ∈ tbG := tb_s3 (i := 15) (q := (⟨"NextBenchModel", "passAll", "()V"⟩, _)) rfl
theorem ks_48 : Cond.selects "NextBenchModel" ⟨"NextBenchModel", "pass", "(I)I"⟩ ⟨"NextBenchModel", "pass", "(I)I"⟩ ∈ tbG := tb_s4 (i := 0) (q := (⟨"NextBenchModel", "pass", "(I)I"⟩, _)) rfl
