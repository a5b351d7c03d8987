/-! WORDS of the tables that the walk uses, by their places -/
def gtbl : List Cond := lw_tbl.filter goodWord
theorem gt_sel {i : Nat} {w : Cond} (h : (k2_sels lw_privs)[i]? = some w) (g : goodWord w = true) : w ∈ gtbl := List.mem_filter.mpr ⟨List.mem_append_left _ (List.mem_of_getElem? h), g⟩
theorem tb_in {i : Nat} {w : Cond} (h : tables_1[i]? = some w) : w ∈ lw_tbl := List.mem_append_right _ (List.mem_of_getElem? h)
theorem gt_good : ∀ w ∈ gtbl, goodWord w = true := fun _ h => (List.mem_filter.mp h).2
theorem tb1 {i : Nat} {w : Cond} (h : tables_1_1[i]? = some w) : w ∈ lw_tbl := List.mem_append_right _ (List.mem_append_left _ (List.mem_of_getElem? h))
theorem gt1 {i : Nat} {w : Cond} (h : tables_1_1[i]? = some w) (g : goodWord w = true) : w ∈ gtbl := List.mem_filter.mpr ⟨tb1 h, g⟩
theorem tb2 {i : Nat} {w : Cond} (h : tables_1_2[i]? = some w) : w ∈ lw_tbl := List.mem_append_right _ (List.mem_append_right _ (List.mem_append_left _ (List.mem_of_getElem? h)))
theorem gt2 {i : Nat} {w : Cond} (h : tables_1_2[i]? = some w) (g : goodWord w = true) : w ∈ gtbl := List.mem_filter.mpr ⟨tb2 h, g⟩
theorem tb3 {i : Nat} {w : Cond} (h : tables_1_3[i]? = some w) : w ∈ lw_tbl := List.mem_append_right _ (List.mem_append_right _ (List.mem_append_right _ (List.mem_append_left _ (List.mem_of_getElem? h))))
theorem gt3 {i : Nat} {w : Cond} (h : tables_1_3[i]? = some w) (g : goodWord w = true) : w ∈ gtbl := List.mem_filter.mpr ⟨tb3 h, g⟩
theorem tb4 {i : Nat} {w : Cond} (h : tables_1_4[i]? = some w) : w ∈ lw_tbl := List.mem_append_right _ (List.mem_append_right _ (List.mem_append_right _ (List.mem_append_right _ (List.mem_append_left _ (List.mem_of_getElem? h)))))
theorem gt4 {i : Nat} {w : Cond} (h : tables_1_4[i]? = some w) (g : goodWord w = true) : w ∈ gtbl := List.mem_filter.mpr ⟨tb4 h, g⟩
theorem tb5 {i : Nat} {w : Cond} (h : tables_1_5[i]? = some w) : w ∈ lw_tbl := List.mem_append_right _ (List.mem_append_right _ (List.mem_append_right _ (List.mem_append_right _ (List.mem_append_right _ (List.mem_append_left _ (List.mem_of_getElem? h))))))
theorem gt5 {i : Nat} {w : Cond} (h : tables_1_5[i]? = some w) (g : goodWord w = true) : w ∈ gtbl := List.mem_filter.mpr ⟨tb5 h, g⟩
theorem tb6 {i : Nat} {w : Cond} (h : tables_1_6[i]? = some w) : w ∈ lw_tbl := List.mem_append_right _ (List.mem_append_right _ (List.mem_append_right _ (List.mem_append_right _ (List.mem_append_right _ (List.mem_append_right _ (List.mem_append_left _ (List.mem_of_getElem? h)))))))
theorem gt6 {i : Nat} {w : Cond} (h : tables_1_6[i]? = some w) (g : goodWord w = true) : w ∈ gtbl := List.mem_filter.mpr ⟨tb6 h, g⟩
theorem tb7 {i : Nat} {w : Cond} (h : tables_1_7[i]? = some w) : w ∈ lw_tbl := List.mem_append_right _ (List.mem_append_right _ (List.mem_append_right _ (List.mem_append_right _ (List.mem_append_right _ (List.mem_append_right _ (List.mem_append_right _ (List.mem_append_left _ (List.mem_of_getElem? h))))))))
theorem gt7 {i : Nat} {w : Cond} (h : tables_1_7[i]? = some w) (g : goodWord w = true) : w ∈ gtbl := List.mem_filter.mpr ⟨tb7 h, g⟩
theorem tb8 {i : Nat} {w : Cond} (h : tables_1_8[i]? = some w) : w ∈ lw_tbl := List.mem_append_right _ (List.mem_append_right _ (List.mem_append_right _ (List.mem_append_right _ (List.mem_append_right _ (List.mem_append_right _ (List.mem_append_right _ (List.mem_append_right _ (List.mem_append_left _ (List.mem_of_getElem? h)))))))))
theorem gt8 {i : Nat} {w : Cond} (h : tables_1_8[i]? = some w) (g : goodWord w = true) : w ∈ gtbl := List.mem_filter.mpr ⟨tb8 h, g⟩
theorem tb9 {i : Nat} {w : Cond} (h : tables_1_9[i]? = some w) : w ∈ lw_tbl := List.mem_append_right _ (List.mem_append_right _ (List.mem_append_right _ (List.mem_append_right _ (List.mem_append_right _ (List.mem_append_right _ (List.mem_append_right _ (List.mem_append_right _ (List.mem_append_right _ (List.mem_of_getElem? h)))))))))
theorem gt9 {i : Nat} {w : Cond} (h : tables_1_9[i]? = some w) (g : goodWord w = true) : w ∈ gtbl := List.mem_filter.mpr ⟨tb9 h, g⟩
theorem q_0 : (Cond.initialized "FlatPlanLaw") ∈ gtbl := gt1 (i := 0) rfl rfl
theorem q_1 : (Cond.initialized "FlatPlan") ∈ gtbl := gt1 (i := 1) rfl rfl
theorem q_2 : (Cond.initialized "FlatPlan$Reader") ∈ gtbl := gt1 (i := 2) rfl rfl
theorem q_3 : (Cond.initialized "FlatPlan$Bytes") ∈ gtbl := gt1 (i := 3) rfl rfl
theorem q_4 : (Cond.initialized "FlatPlan$Plan") ∈ gtbl := gt1 (i := 4) rfl rfl
theorem q_5 : (Cond.initialized "FlatPlan$State") ∈ gtbl := gt1 (i := 5) rfl rfl
theorem q_6 : (Cond.initialized "FlatPlan$Ads") ∈ gtbl := gt1 (i := 6) rfl rfl
theorem q_7 : (Cond.initialized "FlatPlan$Stories") ∈ gtbl := gt1 (i := 7) rfl rfl
theorem q_8 : (Cond.initialized "FlatPlan$Standbys") ∈ gtbl := gt1 (i := 8) rfl rfl
theorem q_9 : (Cond.initialized "FlatPlan$Forms") ∈ gtbl := gt1 (i := 9) rfl rfl
theorem q_10 : (Cond.initialized "java/util/Arrays") ∈ gtbl := gt1 (i := 10) rfl rfl
theorem q_11 : (Cond.initialized "java/lang/Math") ∈ gtbl := gt1 (i := 11) rfl rfl
theorem q_12 : (Cond.initialized "FlatPlan$Searches") ∈ gtbl := gt1 (i := 12) rfl rfl
theorem q_13 : (Cond.initialized "FlatPlan$History") ∈ gtbl := gt1 (i := 13) rfl rfl
theorem q_14 : (Cond.initialized "FlatPlanModel") ∈ gtbl := gt1 (i := 14) rfl rfl
theorem q_15 : (Cond.initialized "java/lang/String") ∈ gtbl := gt1 (i := 15) rfl rfl
theorem q_16 : (Cond.initialized "java/lang/StringLatin1") ∈ gtbl := gt1 (i := 16) rfl rfl
theorem q_17 : (Cond.initialized "jdk/internal/util/Preconditions") ∈ gtbl := gt1 (i := 17) rfl rfl
theorem q_18 : (Cond.initialized "java/lang/StringUTF16") ∈ gtbl := gt1 (i := 18) rfl rfl
theorem q_19 : (Cond.initialized "java/lang/System") ∈ gtbl := gt1 (i := 19) rfl rfl
theorem q_20 : (Cond.initialized "java/lang/Throwable") ∈ gtbl := gt1 (i := 20) rfl rfl
theorem q_21 : (Cond.initialized "java/lang/Exception") ∈ gtbl := gt1 (i := 21) rfl rfl
theorem q_22 : (Cond.initialized "java/lang/RuntimeException") ∈ gtbl := gt1 (i := 22) rfl rfl
theorem q_23 : (Cond.initialized "java/lang/IllegalArgumentException") ∈ gtbl := gt1 (i := 23) rfl rfl
theorem q_24 : (Cond.initialized "java/lang/IndexOutOfBoundsException") ∈ gtbl := gt1 (i := 24) rfl rfl
theorem q_25 : (Cond.initialized "java/lang/ArrayIndexOutOfBoundsException") ∈ gtbl := gt1 (i := 25) rfl rfl
theorem q_26 : (Cond.initialized "java/lang/Integer") ∈ gtbl := gt1 (i := 26) rfl rfl
theorem q_27 : (Cond.initialized "java/lang/ArithmeticException") ∈ gtbl := gt1 (i := 27) rfl rfl
theorem q_28 : (Cond.classLink "FlatPlanLaw" (8 : Nat) "FlatPlan") ∈ gtbl := gt1 (i := 28) rfl rfl
theorem q_29 : (Cond.instantiable "FlatPlan" (6 : Nat)) ∈ gtbl := gt1 (i := 29) rfl rfl
theorem q_30 : (Cond.methodLink "FlatPlanLaw" (127 : Nat) ({ cls := "FlatPlan", name := "<init>", desc := "()V" } : Jvm.MethodName)) ∈ gtbl := gt1 (i := 30) rfl rfl
theorem q_31 : (Cond.instanceMethod ({ cls := "FlatPlan", name := "<init>", desc := "()V" } : Jvm.MethodName)) ∈ gtbl := gt1 (i := 31) rfl rfl
theorem q_32 : (Cond.code ({ cls := "FlatPlan", name := "<init>", desc := "()V" } : Jvm.MethodName) prog_1_method_1_code (1 : Nat) (Option.none : Option FieldType)) ∈ gtbl := gt1 (i := 32) rfl rfl
theorem q_33 : (Cond.methodLink "FlatPlan" (1 : Nat) ({ cls := "java/lang/Object", name := "<init>", desc := "()V" } : Jvm.MethodName)) ∈ gtbl := gt1 (i := 33) rfl rfl
theorem q_34 : (Cond.instanceMethod ({ cls := "java/lang/Object", name := "<init>", desc := "()V" } : Jvm.MethodName)) ∈ gtbl := gt1 (i := 34) rfl rfl
theorem q_35 : (Cond.code ({ cls := "java/lang/Object", name := "<init>", desc := "()V" } : Jvm.MethodName) object_method_1_code (1 : Nat) (Option.none : Option FieldType)) ∈ gtbl := gt1 (i := 35) rfl rfl
theorem q_36 : (Cond.classLink "FlatPlan" (7 : Nat) "FlatPlan$Reader") ∈ gtbl := gt1 (i := 36) rfl rfl
theorem q_37 : (Cond.instantiable "FlatPlan$Reader" (8 : Nat)) ∈ gtbl := gt1 (i := 37) rfl rfl
theorem q_39 : (Cond.instanceMethod ({ cls := "FlatPlan$Reader", name := "<init>", desc := "()V" } : Jvm.MethodName)) ∈ gtbl := gt1 (i := 39) rfl rfl
theorem q_40 : (Cond.code ({ cls := "FlatPlan$Reader", name := "<init>", desc := "()V" } : Jvm.MethodName) prog_7_method_1_code (1 : Nat) (Option.none : Option FieldType)) ∈ gtbl := gt1 (i := 40) rfl rfl
theorem q_41 : (Cond.methodLink "FlatPlan$Reader" (3 : Nat) ({ cls := "java/lang/Object", name := "<init>", desc := "()V" } : Jvm.MethodName)) ∈ gtbl := gt1 (i := 41) rfl rfl
theorem q_42 : (Cond.classLink "FlatPlan$Reader" (9 : Nat) "FlatPlan$Bytes") ∈ gtbl := gt1 (i := 42) rfl rfl
theorem q_43 : (Cond.instantiable "FlatPlan$Bytes" (2 : Nat)) ∈ gtbl := gt1 (i := 43) rfl rfl
theorem q_44 : (Cond.methodLink "FlatPlan$Reader" (11 : Nat) ({ cls := "FlatPlan$Bytes", name := "<init>", desc := "(I)V" } : Jvm.MethodName)) ∈ gtbl := gt1 (i := 44) rfl rfl
theorem q_45 : (Cond.instanceMethod ({ cls := "FlatPlan$Bytes", name := "<init>", desc := "(I)V" } : Jvm.MethodName)) ∈ gtbl := gt1 (i := 45) rfl rfl
theorem q_46 : (Cond.code ({ cls := "FlatPlan$Bytes", name := "<init>", desc := "(I)V" } : Jvm.MethodName) prog_3_method_1_code (2 : Nat) (Option.none : Option FieldType)) ∈ gtbl := gt1 (i := 46) rfl rfl
theorem q_47 : (Cond.methodLink "FlatPlan$Bytes" (3 : Nat) ({ cls := "java/lang/Object", name := "<init>", desc := "()V" } : Jvm.MethodName)) ∈ gtbl := gt1 (i := 47) rfl rfl
theorem q_48 : (Cond.fieldLink "FlatPlan$Bytes" (9 : Nat) "FlatPlan$Bytes" "row" "[I") ∈ gtbl := gt1 (i := 48) rfl rfl
theorem q_49 : (Cond.fieldLink "FlatPlan$Bytes" (15 : Nat) "FlatPlan$Bytes" "length" "I") ∈ gtbl := gt1 (i := 49) rfl rfl
theorem q_50 : (Cond.fieldLink "FlatPlan" (50 : Nat) "FlatPlan$Bytes" "length" "I") ∈ gtbl := gt1 (i := 50) rfl rfl
theorem q_51 : (Cond.fieldLink "FlatPlan$Reader" (195 : Nat) "FlatPlan$Bytes" "length" "I") ∈ gtbl := gt1 (i := 51) rfl rfl
theorem q_52 : (Cond.laysFinal "FlatPlan$Bytes" "FlatPlan$Bytes" "row" "[I") ∈ gtbl := gt1 (i := 52) rfl rfl
theorem q_54 : (Cond.lays "FlatPlan$Bytes" "FlatPlan$Bytes" "length" "I") ∈ gtbl := gt1 (i := 54) rfl rfl
theorem q_57 : (Cond.arrayClass FieldType.int) ∈ gtbl := gt1 (i := 57) rfl rfl
theorem q_58 : (Cond.classLink "FlatPlan$Reader" (20 : Nat) "FlatPlan$Plan") ∈ gtbl := gt1 (i := 58) rfl rfl
theorem q_59 : (Cond.instantiable "FlatPlan$Plan" (8 : Nat)) ∈ gtbl := gt1 (i := 59) rfl rfl
theorem q_60 : (Cond.methodLink "FlatPlan$Reader" (22 : Nat) ({ cls := "FlatPlan$Plan", name := "<init>", desc := "()V" } : Jvm.MethodName)) ∈ gtbl := gt1 (i := 60) rfl rfl
theorem q_61 : (Cond.instanceMethod ({ cls := "FlatPlan$Plan", name := "<init>", desc := "()V" } : Jvm.MethodName)) ∈ gtbl := gt1 (i := 61) rfl rfl
theorem q_62 : (Cond.code ({ cls := "FlatPlan$Plan", name := "<init>", desc := "()V" } : Jvm.MethodName) prog_6_method_1_code (1 : Nat) (Option.none : Option FieldType)) ∈ gtbl := gt1 (i := 62) rfl rfl
theorem q_63 : (Cond.methodLink "FlatPlan$Plan" (3 : Nat) ({ cls := "java/lang/Object", name := "<init>", desc := "()V" } : Jvm.MethodName)) ∈ gtbl := gt1 (i := 63) rfl rfl
theorem q_64 : (Cond.classLink "FlatPlan$Plan" (9 : Nat) "FlatPlan$State") ∈ gtbl := gt1 (i := 64) rfl rfl
theorem q_65 : (Cond.instantiable "FlatPlan$State" (8 : Nat)) ∈ gtbl := gt1 (i := 65) rfl rfl
theorem q_67 : (Cond.instanceMethod ({ cls := "FlatPlan$State", name := "<init>", desc := "()V" } : Jvm.MethodName)) ∈ gtbl := gt1 (i := 67) rfl rfl
theorem q_68 : (Cond.code ({ cls := "FlatPlan$State", name := "<init>", desc := "()V" } : Jvm.MethodName) prog_10_method_1_code (1 : Nat) (Option.none : Option FieldType)) ∈ gtbl := gt1 (i := 68) rfl rfl
theorem q_69 : (Cond.methodLink "FlatPlan$State" (1 : Nat) ({ cls := "java/lang/Object", name := "<init>", desc := "()V" } : Jvm.MethodName)) ∈ gtbl := gt1 (i := 69) rfl rfl
theorem q_70 : (Cond.classLink "FlatPlan$State" (7 : Nat) "FlatPlan$Ads") ∈ gtbl := gt1 (i := 70) rfl rfl
theorem q_71 : (Cond.instantiable "FlatPlan$Ads" (8 : Nat)) ∈ gtbl := gt1 (i := 71) rfl rfl
theorem q_73 : (Cond.instanceMethod ({ cls := "FlatPlan$Ads", name := "<init>", desc := "()V" } : Jvm.MethodName)) ∈ gtbl := gt1 (i := 73) rfl rfl
theorem q_74 : (Cond.code ({ cls := "FlatPlan$Ads", name := "<init>", desc := "()V" } : Jvm.MethodName) prog_2_method_1_code (1 : Nat) (Option.none : Option FieldType)) ∈ gtbl := gt1 (i := 74) rfl rfl
theorem q_75 : (Cond.methodLink "FlatPlan$Ads" (3 : Nat) ({ cls := "java/lang/Object", name := "<init>", desc := "()V" } : Jvm.MethodName)) ∈ gtbl := gt1 (i := 75) rfl rfl
theorem q_76 : (Cond.fieldLink "FlatPlan$Ads" (9 : Nat) "FlatPlan$Ads" "size" "[I") ∈ gtbl := gt1 (i := 76) rfl rfl
theorem q_77 : (Cond.fieldLink "FlatPlan$Searches" (81 : Nat) "FlatPlan$Ads" "size" "[I") ∈ gtbl := gt1 (i := 77) rfl rfl
theorem q_78 : (Cond.fieldLink "FlatPlan$Plan" (123 : Nat) "FlatPlan$Ads" "size" "[I") ∈ gtbl := gt1 (i := 78) rfl rfl
theorem q_79 : (Cond.fieldLink "FlatPlan" (176 : Nat) "FlatPlan$Ads" "size" "[I") ∈ gtbl := gt1 (i := 79) rfl rfl
theorem q_80 : (Cond.fieldLink "FlatPlan$Ads" (15 : Nat) "FlatPlan$Ads" "group" "[I") ∈ gtbl := gt1 (i := 80) rfl rfl
theorem q_81 : (Cond.fieldLink "FlatPlan$Plan" (126 : Nat) "FlatPlan$Ads" "group" "[I") ∈ gtbl := gt1 (i := 81) rfl rfl
theorem q_82 : (Cond.fieldLink "FlatPlan" (179 : Nat) "FlatPlan$Ads" "group" "[I") ∈ gtbl := gt1 (i := 82) rfl rfl
theorem q_83 : (Cond.fieldLink "FlatPlan$Ads" (18 : Nat) "FlatPlan$Ads" "color" "[I") ∈ gtbl := gt1 (i := 83) rfl rfl
theorem q_84 : (Cond.fieldLink "FlatPlan$Reader" (142 : Nat) "FlatPlan$Ads" "color" "[I") ∈ gtbl := gt1 (i := 84) rfl rfl
theorem q_85 : (Cond.fieldLink "FlatPlan" (167 : Nat) "FlatPlan$Ads" "color" "[I") ∈ gtbl := gt1 (i := 85) rfl rfl
theorem q_86 : (Cond.fieldLink "FlatPlan$Plan" (138 : Nat) "FlatPlan$Ads" "color" "[I") ∈ gtbl := gt1 (i := 86) rfl rfl
theorem q_87 : (Cond.fieldLink "FlatPlan$Searches" (193 : Nat) "FlatPlan$Ads" "color" "[I") ∈ gtbl := gt1 (i := 87) rfl rfl
theorem q_88 : (Cond.fieldLink "FlatPlan$Ads" (21 : Nat) "FlatPlan$Ads" "side" "[I") ∈ gtbl := gt1 (i := 88) rfl rfl
theorem q_89 : (Cond.fieldLink "FlatPlan$Reader" (143 : Nat) "FlatPlan$Ads" "side" "[I") ∈ gtbl := gt1 (i := 89) rfl rfl
theorem q_90 : (Cond.fieldLink "FlatPlan" (168 : Nat) "FlatPlan$Ads" "side" "[I") ∈ gtbl := gt1 (i := 90) rfl rfl
theorem q_91 : (Cond.fieldLink "FlatPlan$Plan" (143 : Nat) "FlatPlan$Ads" "side" "[I") ∈ gtbl := gt1 (i := 91) rfl rfl
theorem q_92 : (Cond.fieldLink "FlatPlan$Ads" (24 : Nat) "FlatPlan$Ads" "price" "[I") ∈ gtbl := gt1 (i := 92) rfl rfl
theorem q_93 : (Cond.fieldLink "FlatPlan$Searches" (78 : Nat) "FlatPlan$Ads" "price" "[I") ∈ gtbl := gt1 (i := 93) rfl rfl
theorem q_94 : (Cond.fieldLink "FlatPlan" (173 : Nat) "FlatPlan$Ads" "price" "[I") ∈ gtbl := gt1 (i := 94) rfl rfl
theorem q_95 : (Cond.fieldLink "FlatPlan$Plan" (201 : Nat) "FlatPlan$Ads" "price" "[I") ∈ gtbl := gt1 (i := 95) rfl rfl
theorem q_96 : (Cond.fieldLink "FlatPlan$Ads" (27 : Nat) "FlatPlan$Ads" "ready" "[I") ∈ gtbl := gt1 (i := 96) rfl rfl
theorem q_97 : (Cond.fieldLink "FlatPlan" (182 : Nat) "FlatPlan$Ads" "ready" "[I") ∈ gtbl := gt1 (i := 97) rfl rfl
theorem q_98 : (Cond.fieldLink "FlatPlan$Searches" (207 : Nat) "FlatPlan$Ads" "ready" "[I") ∈ gtbl := gt1 (i := 98) rfl rfl
theorem q_99 : (Cond.fieldLink "FlatPlan$Plan" (183 : Nat) "FlatPlan$Ads" "ready" "[I") ∈ gtbl := gt1 (i := 99) rfl rfl
theorem q_100 : (Cond.fieldLink "FlatPlan$Ads" (30 : Nat) "FlatPlan$Ads" "page" "[I") ∈ gtbl := gt1 (i := 100) rfl rfl
theorem q_101 : (Cond.fieldLink "FlatPlan$Searches" (60 : Nat) "FlatPlan$Ads" "page" "[I") ∈ gtbl := gt1 (i := 101) rfl rfl
theorem q_102 : (Cond.fieldLink "FlatPlan$Plan" (116 : Nat) "FlatPlan$Ads" "page" "[I") ∈ gtbl := gt1 (i := 102) rfl rfl
theorem q_103 : (Cond.fieldLink "FlatPlan" (120 : Nat) "FlatPlan$Ads" "page" "[I") ∈ gtbl := gt1 (i := 103) rfl rfl
theorem q_104 : (Cond.fieldLink "FlatPlan$Reader" (171 : Nat) "FlatPlan$Ads" "page" "[I") ∈ gtbl := gt1 (i := 104) rfl rfl
theorem q_105 : (Cond.fieldLink "FlatPlan$Ads" (33 : Nat) "FlatPlan$Ads" "number" "I") ∈ gtbl := gt1 (i := 105) rfl rfl
theorem q_106 : (Cond.fieldLink "FlatPlan$Searches" (54 : Nat) "FlatPlan$Ads" "number" "I") ∈ gtbl := gt1 (i := 106) rfl rfl
theorem q_107 : (Cond.fieldLink "FlatPlan$Plan" (49 : Nat) "FlatPlan$Ads" "number" "I") ∈ gtbl := gt1 (i := 107) rfl rfl
theorem q_108 : (Cond.fieldLink "FlatPlan$Reader" (130 : Nat) "FlatPlan$Ads" "number" "I") ∈ gtbl := gt1 (i := 108) rfl rfl
theorem q_109 : (Cond.fieldLink "FlatPlan" (98 : Nat) "FlatPlan$Ads" "number" "I") ∈ gtbl := gt1 (i := 109) rfl rfl
theorem q_110 : (Cond.laysFinal "FlatPlan$Ads" "FlatPlan$Ads" "size" "[I") ∈ gtbl := gt1 (i := 110) rfl rfl
theorem q_112 : (Cond.laysFinal "FlatPlan$Ads" "FlatPlan$Ads" "group" "[I") ∈ gtbl := gt1 (i := 112) rfl rfl
theorem q_114 : (Cond.laysFinal "FlatPlan$Ads" "FlatPlan$Ads" "color" "[I") ∈ gtbl := gt1 (i := 114) rfl rfl
theorem q_116 : (Cond.laysFinal "FlatPlan$Ads" "FlatPlan$Ads" "side" "[I") ∈ gtbl := gt1 (i := 116) rfl rfl
theorem q_118 : (Cond.laysFinal "FlatPlan$Ads" "FlatPlan$Ads" "price" "[I") ∈ gtbl := gt1 (i := 118) rfl rfl
theorem q_120 : (Cond.laysFinal "FlatPlan$Ads" "FlatPlan$Ads" "ready" "[I") ∈ gtbl := gt1 (i := 120) rfl rfl
theorem q_122 : (Cond.laysFinal "FlatPlan$Ads" "FlatPlan$Ads" "page" "[I") ∈ gtbl := gt1 (i := 122) rfl rfl
theorem q_124 : (Cond.lays "FlatPlan$Ads" "FlatPlan$Ads" "number" "I") ∈ gtbl := gt1 (i := 124) rfl rfl
theorem q_127 : (Cond.classLink "FlatPlan$State" (16 : Nat) "FlatPlan$Stories") ∈ gtbl := gt1 (i := 127) rfl rfl
theorem q_128 : (Cond.instantiable "FlatPlan$Stories" (6 : Nat)) ∈ gtbl := gt1 (i := 128) rfl rfl
theorem q_130 : (Cond.instanceMethod ({ cls := "FlatPlan$Stories", name := "<init>", desc := "()V" } : Jvm.MethodName)) ∈ gtbl := gt1 (i := 130) rfl rfl
theorem q_131 : (Cond.code ({ cls := "FlatPlan$Stories", name := "<init>", desc := "()V" } : Jvm.MethodName) prog_11_method_1_code (1 : Nat) (Option.none : Option FieldType)) ∈ gtbl := gt1 (i := 131) rfl rfl
theorem q_132 : (Cond.methodLink "FlatPlan$Stories" (3 : Nat) ({ cls := "java/lang/Object", name := "<init>", desc := "()V" } : Jvm.MethodName)) ∈ gtbl := gt1 (i := 132) rfl rfl
theorem q_133 : (Cond.fieldLink "FlatPlan$Stories" (9 : Nat) "FlatPlan$Stories" "length" "[I") ∈ gtbl := gt1 (i := 133) rfl rfl
theorem q_134 : (Cond.fieldLink "FlatPlan$Searches" (91 : Nat) "FlatPlan$Stories" "length" "[I") ∈ gtbl := gt1 (i := 134) rfl rfl
theorem q_135 : (Cond.fieldLink "FlatPlan$Plan" (132 : Nat) "FlatPlan$Stories" "length" "[I") ∈ gtbl := gt1 (i := 135) rfl rfl
theorem q_136 : (Cond.fieldLink "FlatPlan" (195 : Nat) "FlatPlan$Stories" "length" "[I") ∈ gtbl := gt1 (i := 136) rfl rfl
theorem q_137 : (Cond.fieldLink "FlatPlan$Stories" (15 : Nat) "FlatPlan$Stories" "color" "[I") ∈ gtbl := gt1 (i := 137) rfl rfl
theorem q_138 : (Cond.fieldLink "FlatPlan" (197 : Nat) "FlatPlan$Stories" "color" "[I") ∈ gtbl := gt1 (i := 138) rfl rfl
theorem q_139 : (Cond.fieldLink "FlatPlan$Plan" (162 : Nat) "FlatPlan$Stories" "color" "[I") ∈ gtbl := gt1 (i := 139) rfl rfl
theorem q_140 : (Cond.fieldLink "FlatPlan$Searches" (194 : Nat) "FlatPlan$Stories" "color" "[I") ∈ gtbl := gt1 (i := 140) rfl rfl
theorem q_141 : (Cond.fieldLink "FlatPlan$Stories" (18 : Nat) "FlatPlan$Stories" "side" "[I") ∈ gtbl := gt1 (i := 141) rfl rfl
theorem q_142 : (Cond.fieldLink "FlatPlan" (198 : Nat) "FlatPlan$Stories" "side" "[I") ∈ gtbl := gt1 (i := 142) rfl rfl
theorem q_143 : (Cond.fieldLink "FlatPlan$Plan" (155 : Nat) "FlatPlan$Stories" "side" "[I") ∈ gtbl := gt1 (i := 143) rfl rfl
theorem q_144 : (Cond.fieldLink "FlatPlan$Stories" (21 : Nat) "FlatPlan$Stories" "ready" "[I") ∈ gtbl := gt1 (i := 144) rfl rfl
theorem q_145 : (Cond.fieldLink "FlatPlan" (199 : Nat) "FlatPlan$Stories" "ready" "[I") ∈ gtbl := gt1 (i := 145) rfl rfl
theorem q_146 : (Cond.fieldLink "FlatPlan$Searches" (223 : Nat) "FlatPlan$Stories" "ready" "[I") ∈ gtbl := gt1 (i := 146) rfl rfl
theorem q_147 : (Cond.fieldLink "FlatPlan$Plan" (189 : Nat) "FlatPlan$Stories" "ready" "[I") ∈ gtbl := gt1 (i := 147) rfl rfl
theorem q_148 : (Cond.fieldLink "FlatPlan$Stories" (24 : Nat) "FlatPlan$Stories" "page" "[I") ∈ gtbl := gt1 (i := 148) rfl rfl
theorem q_149 : (Cond.fieldLink "FlatPlan$Searches" (94 : Nat) "FlatPlan$Stories" "page" "[I") ∈ gtbl := gt1 (i := 149) rfl rfl
theorem q_150 : (Cond.fieldLink "FlatPlan$Plan" (131 : Nat) "FlatPlan$Stories" "page" "[I") ∈ gtbl := gt1 (i := 150) rfl rfl
theorem q_151 : (Cond.fieldLink "FlatPlan" (128 : Nat) "FlatPlan$Stories" "page" "[I") ∈ gtbl := gt1 (i := 151) rfl rfl
theorem q_152 : (Cond.fieldLink "FlatPlan$Reader" (181 : Nat) "FlatPlan$Stories" "page" "[I") ∈ gtbl := gt1 (i := 152) rfl rfl
theorem q_153 : (Cond.fieldLink "FlatPlan$Stories" (27 : Nat) "FlatPlan$Stories" "number" "I") ∈ gtbl := gt1 (i := 153) rfl rfl
theorem q_154 : (Cond.fieldLink "FlatPlan$Plan" (58 : Nat) "FlatPlan$Stories" "number" "I") ∈ gtbl := gt1 (i := 154) rfl rfl
theorem q_155 : (Cond.fieldLink "FlatPlan$Searches" (88 : Nat) "FlatPlan$Stories" "number" "I") ∈ gtbl := gt1 (i := 155) rfl rfl
theorem q_156 : (Cond.fieldLink "FlatPlan$Reader" (150 : Nat) "FlatPlan$Stories" "number" "I") ∈ gtbl := gt1 (i := 156) rfl rfl
theorem q_157 : (Cond.fieldLink "FlatPlan" (107 : Nat) "FlatPlan$Stories" "number" "I") ∈ gtbl := gt1 (i := 157) rfl rfl
theorem q_158 : (Cond.laysFinal "FlatPlan$Stories" "FlatPlan$Stories" "length" "[I") ∈ gtbl := gt1 (i := 158) rfl rfl
theorem q_160 : (Cond.laysFinal "FlatPlan$Stories" "FlatPlan$Stories" "color" "[I") ∈ gtbl := gt1 (i := 160) rfl rfl
theorem q_162 : (Cond.laysFinal "FlatPlan$Stories" "FlatPlan$Stories" "side" "[I") ∈ gtbl := gt1 (i := 162) rfl rfl
theorem q_164 : (Cond.laysFinal "FlatPlan$Stories" "FlatPlan$Stories" "ready" "[I") ∈ gtbl := gt1 (i := 164) rfl rfl
theorem q_166 : (Cond.laysFinal "FlatPlan$Stories" "FlatPlan$Stories" "page" "[I") ∈ gtbl := gt1 (i := 166) rfl rfl
theorem q_168 : (Cond.lays "FlatPlan$Stories" "FlatPlan$Stories" "number" "I") ∈ gtbl := gt1 (i := 168) rfl rfl
theorem q_171 : (Cond.classLink "FlatPlan$State" (23 : Nat) "FlatPlan$Standbys") ∈ gtbl := gt1 (i := 171) rfl rfl
theorem q_172 : (Cond.instantiable "FlatPlan$Standbys" (3 : Nat)) ∈ gtbl := gt1 (i := 172) rfl rfl
theorem q_174 : (Cond.instanceMethod ({ cls := "FlatPlan$Standbys", name := "<init>", desc := "()V" } : Jvm.MethodName)) ∈ gtbl := gt1 (i := 174) rfl rfl
theorem q_175 : (Cond.code ({ cls := "FlatPlan$Standbys", name := "<init>", desc := "()V" } : Jvm.MethodName) prog_9_method_1_code (1 : Nat) (Option.none : Option FieldType)) ∈ gtbl := gt1 (i := 175) rfl rfl
theorem q_176 : (Cond.methodLink "FlatPlan$Standbys" (3 : Nat) ({ cls := "java/lang/Object", name := "<init>", desc := "()V" } : Jvm.MethodName)) ∈ gtbl := gt1 (i := 176) rfl rfl
theorem q_177 : (Cond.fieldLink "FlatPlan$Standbys" (9 : Nat) "FlatPlan$Standbys" "size" "[I") ∈ gtbl := gt1 (i := 177) rfl rfl
theorem q_178 : (Cond.fieldLink "FlatPlan$Plan" (130 : Nat) "FlatPlan$Standbys" "size" "[I") ∈ gtbl := gt1 (i := 178) rfl rfl
theorem q_179 : (Cond.fieldLink "FlatPlan" (203 : Nat) "FlatPlan$Standbys" "size" "[I") ∈ gtbl := gt1 (i := 179) rfl rfl
theorem q_180 : (Cond.fieldLink "FlatPlan$Standbys" (15 : Nat) "FlatPlan$Standbys" "page" "[I") ∈ gtbl := gt1 (i := 180) rfl rfl
theorem q_181 : (Cond.fieldLink "FlatPlan$Plan" (129 : Nat) "FlatPlan$Standbys" "page" "[I") ∈ gtbl := gt1 (i := 181) rfl rfl
theorem q_182 : (Cond.fieldLink "FlatPlan" (129 : Nat) "FlatPlan$Standbys" "page" "[I") ∈ gtbl := gt1 (i := 182) rfl rfl
theorem q_183 : (Cond.fieldLink "FlatPlan$Standbys" (18 : Nat) "FlatPlan$Standbys" "number" "I") ∈ gtbl := gt1 (i := 183) rfl rfl
theorem q_184 : (Cond.fieldLink "FlatPlan$Plan" (65 : Nat) "FlatPlan$Standbys" "number" "I") ∈ gtbl := gt1 (i := 184) rfl rfl
theorem q_185 : (Cond.fieldLink "FlatPlan" (114 : Nat) "FlatPlan$Standbys" "number" "I") ∈ gtbl := gt1 (i := 185) rfl rfl
theorem q_186 : (Cond.fieldLink "FlatPlan$Reader" (160 : Nat) "FlatPlan$Standbys" "number" "I") ∈ gtbl := gt1 (i := 186) rfl rfl
theorem q_187 : (Cond.laysFinal "FlatPlan$Standbys" "FlatPlan$Standbys" "size" "[I") ∈ gtbl := gt1 (i := 187) rfl rfl
theorem q_189 : (Cond.laysFinal "FlatPlan$Standbys" "FlatPlan$Standbys" "page" "[I") ∈ gtbl := gt1 (i := 189) rfl rfl
theorem q_191 : (Cond.lays "FlatPlan$Standbys" "FlatPlan$Standbys" "number" "I") ∈ gtbl := gt1 (i := 191) rfl rfl
theorem q_194 : (Cond.classLink "FlatPlan$State" (30 : Nat) "FlatPlan$Forms") ∈ gtbl := gt1 (i := 194) rfl rfl
theorem q_195 : (Cond.instantiable "FlatPlan$Forms" (3 : Nat)) ∈ gtbl := gt1 (i := 195) rfl rfl
theorem q_197 : (Cond.instanceMethod ({ cls := "FlatPlan$Forms", name := "<init>", desc := "()V" } : Jvm.MethodName)) ∈ gtbl := gt1 (i := 197) rfl rfl
theorem q_198 : (Cond.code ({ cls := "FlatPlan$Forms", name := "<init>", desc := "()V" } : Jvm.MethodName) prog_4_method_1_code (1 : Nat) (Option.none : Option FieldType)) ∈ gtbl := gt1 (i := 198) rfl rfl
theorem q_199 : (Cond.methodLink "FlatPlan$Forms" (3 : Nat) ({ cls := "java/lang/Object", name := "<init>", desc := "()V" } : Jvm.MethodName)) ∈ gtbl := gt1 (i := 199) rfl rfl
theorem q_200 : (Cond.fieldLink "FlatPlan$Forms" (9 : Nat) "FlatPlan$Forms" "color" "[I") ∈ gtbl := gt1 (i := 200) rfl rfl
theorem q_201 : (Cond.fieldLink "FlatPlan$Plan" (78 : Nat) "FlatPlan$Forms" "color" "[I") ∈ gtbl := gt1 (i := 201) rfl rfl
theorem q_202 : (Cond.fieldLink "FlatPlan$Reader" (122 : Nat) "FlatPlan$Forms" "color" "[I") ∈ gtbl := gt1 (i := 202) rfl rfl
theorem q_203 : (Cond.fieldLink "FlatPlan" (138 : Nat) "FlatPlan$Forms" "color" "[I") ∈ gtbl := gt1 (i := 203) rfl rfl
theorem q_204 : (Cond.fieldLink "FlatPlan$Searches" (175 : Nat) "FlatPlan$Forms" "color" "[I") ∈ gtbl := gt1 (i := 204) rfl rfl
theorem q_205 : (Cond.fieldLink "FlatPlan$Forms" (15 : Nat) "FlatPlan$Forms" "printed" "[I") ∈ gtbl := gt1 (i := 205) rfl rfl
theorem q_206 : (Cond.fieldLink "FlatPlan$Plan" (89 : Nat) "FlatPlan$Forms" "printed" "[I") ∈ gtbl := gt1 (i := 206) rfl rfl
theorem q_207 : (Cond.fieldLink "FlatPlan" (133 : Nat) "FlatPlan$Forms" "printed" "[I") ∈ gtbl := gt1 (i := 207) rfl rfl
theorem q_208 : (Cond.fieldLink "FlatPlan$Searches" (170 : Nat) "FlatPlan$Forms" "printed" "[I") ∈ gtbl := gt1 (i := 208) rfl rfl
theorem q_209 : (Cond.fieldLink "FlatPlan$Forms" (18 : Nat) "FlatPlan$Forms" "closing" "[I") ∈ gtbl := gt1 (i := 209) rfl rfl
theorem q_210 : (Cond.fieldLink "FlatPlan$Plan" (92 : Nat) "FlatPlan$Forms" "closing" "[I") ∈ gtbl := gt1 (i := 210) rfl rfl
theorem q_211 : (Cond.fieldLink "FlatPlan$Reader" (165 : Nat) "FlatPlan$Forms" "closing" "[I") ∈ gtbl := gt1 (i := 211) rfl rfl
theorem q_212 : (Cond.fieldLink "FlatPlan" (226 : Nat) "FlatPlan$Forms" "closing" "[I") ∈ gtbl := gt1 (i := 212) rfl rfl
theorem q_213 : (Cond.laysFinal "FlatPlan$Forms" "FlatPlan$Forms" "color" "[I") ∈ gtbl := gt1 (i := 213) rfl rfl
theorem q_215 : (Cond.laysFinal "FlatPlan$Forms" "FlatPlan$Forms" "printed" "[I") ∈ gtbl := gt1 (i := 215) rfl rfl
theorem q_217 : (Cond.laysFinal "FlatPlan$Forms" "FlatPlan$Forms" "closing" "[I") ∈ gtbl := gt1 (i := 217) rfl rfl
theorem q_220 : (Cond.fieldLink "FlatPlan$State" (10 : Nat) "FlatPlan$State" "ads" "LFlatPlan$Ads;") ∈ gtbl := gt1 (i := 220) rfl rfl
theorem q_221 : (Cond.fieldLink "FlatPlan$Searches" (48 : Nat) "FlatPlan$State" "ads" "LFlatPlan$Ads;") ∈ gtbl := gt1 (i := 221) rfl rfl
theorem q_222 : (Cond.fieldLink "FlatPlan$Plan" (45 : Nat) "FlatPlan$State" "ads" "LFlatPlan$Ads;") ∈ gtbl := gt1 (i := 222) rfl rfl
theorem q_223 : (Cond.fieldLink "FlatPlan$Reader" (126 : Nat) "FlatPlan$State" "ads" "LFlatPlan$Ads;") ∈ gtbl := gt1 (i := 223) rfl rfl
theorem q_224 : (Cond.fieldLink "FlatPlan" (94 : Nat) "FlatPlan$State" "ads" "LFlatPlan$Ads;") ∈ gtbl := gt1 (i := 224) rfl rfl
theorem q_225 : (Cond.fieldLink "FlatPlan$State" (19 : Nat) "FlatPlan$State" "stories" "LFlatPlan$Stories;") ∈ gtbl := gt1 (i := 225) rfl rfl
theorem q_226 : (Cond.fieldLink "FlatPlan$Plan" (54 : Nat) "FlatPlan$State" "stories" "LFlatPlan$Stories;") ∈ gtbl := gt1 (i := 226) rfl rfl
theorem q_227 : (Cond.fieldLink "FlatPlan$Searches" (84 : Nat) "FlatPlan$State" "stories" "LFlatPlan$Stories;") ∈ gtbl := gt1 (i := 227) rfl rfl
theorem q_228 : (Cond.fieldLink "FlatPlan$Reader" (146 : Nat) "FlatPlan$State" "stories" "LFlatPlan$Stories;") ∈ gtbl := gt1 (i := 228) rfl rfl
theorem q_229 : (Cond.fieldLink "FlatPlan" (103 : Nat) "FlatPlan$State" "stories" "LFlatPlan$Stories;") ∈ gtbl := gt1 (i := 229) rfl rfl
theorem q_230 : (Cond.fieldLink "FlatPlan$State" (26 : Nat) "FlatPlan$State" "standbys" "LFlatPlan$Standbys;") ∈ gtbl := gt1 (i := 230) rfl rfl
theorem q_231 : (Cond.fieldLink "FlatPlan$Plan" (61 : Nat) "FlatPlan$State" "standbys" "LFlatPlan$Standbys;") ∈ gtbl := gt1 (i := 231) rfl rfl
theorem q_232 : (Cond.fieldLink "FlatPlan" (110 : Nat) "FlatPlan$State" "standbys" "LFlatPlan$Standbys;") ∈ gtbl := gt1 (i := 232) rfl rfl
theorem q_233 : (Cond.fieldLink "FlatPlan$Reader" (156 : Nat) "FlatPlan$State" "standbys" "LFlatPlan$Standbys;") ∈ gtbl := gt1 (i := 233) rfl rfl
theorem q_234 : (Cond.fieldLink "FlatPlan$State" (33 : Nat) "FlatPlan$State" "forms" "LFlatPlan$Forms;") ∈ gtbl := gt1 (i := 234) rfl rfl
theorem q_235 : (Cond.fieldLink "FlatPlan$Plan" (74 : Nat) "FlatPlan$State" "forms" "LFlatPlan$Forms;") ∈ gtbl := gt1 (i := 235) rfl rfl
theorem q_236 : (Cond.fieldLink "FlatPlan$Reader" (117 : Nat) "FlatPlan$State" "forms" "LFlatPlan$Forms;") ∈ gtbl := gt1 (i := 236) rfl rfl
theorem q_237 : (Cond.fieldLink "FlatPlan" (130 : Nat) "FlatPlan$State" "forms" "LFlatPlan$Forms;") ∈ gtbl := gt1 (i := 237) rfl rfl
theorem q_238 : (Cond.fieldLink "FlatPlan$Searches" (167 : Nat) "FlatPlan$State" "forms" "LFlatPlan$Forms;") ∈ gtbl := gt1 (i := 238) rfl rfl
theorem q_239 : (Cond.fieldLink "FlatPlan$Plan" (38 : Nat) "FlatPlan$State" "signatures" "I") ∈ gtbl := gt1 (i := 239) rfl rfl
theorem q_240 : (Cond.fieldLink "FlatPlan$State" (50 : Nat) "FlatPlan$State" "signatures" "I") ∈ gtbl := gt2 (i := 0) rfl rfl
theorem q_241 : (Cond.fieldLink "FlatPlan" (86 : Nat) "FlatPlan$State" "signatures" "I") ∈ gtbl := gt2 (i := 1) rfl rfl
theorem q_242 : (Cond.fieldLink "FlatPlan$Plan" (42 : Nat) "FlatPlan$State" "signaturePages" "I") ∈ gtbl := gt2 (i := 2) rfl rfl
theorem q_243 : (Cond.fieldLink "FlatPlan$State" (54 : Nat) "FlatPlan$State" "signaturePages" "I") ∈ gtbl := gt2 (i := 3) rfl rfl
theorem q_244 : (Cond.fieldLink "FlatPlan" (229 : Nat) "FlatPlan$State" "signaturePages" "I") ∈ gtbl := gt2 (i := 4) rfl rfl
theorem q_245 : (Cond.fieldLink "FlatPlan$Plan" (68 : Nat) "FlatPlan$State" "time" "I") ∈ gtbl := gt2 (i := 5) rfl rfl
theorem q_246 : (Cond.fieldLink "FlatPlan$State" (57 : Nat) "FlatPlan$State" "time" "I") ∈ gtbl := gt2 (i := 6) rfl rfl
theorem q_247 : (Cond.fieldLink "FlatPlan" (117 : Nat) "FlatPlan$State" "time" "I") ∈ gtbl := gt2 (i := 7) rfl rfl
theorem q_248 : (Cond.fieldLink "FlatPlan$Plan" (71 : Nat) "FlatPlan$State" "lost" "I") ∈ gtbl := gt2 (i := 8) rfl rfl
theorem q_249 : (Cond.fieldLink "FlatPlan$State" (60 : Nat) "FlatPlan$State" "lost" "I") ∈ gtbl := gt2 (i := 9) rfl rfl
theorem q_250 : (Cond.fieldLink "FlatPlan" (340 : Nat) "FlatPlan$State" "lost" "I") ∈ gtbl := gt2 (i := 10) rfl rfl
theorem q_251 : (Cond.laysFinal "FlatPlan$State" "FlatPlan$State" "ads" "LFlatPlan$Ads;") ∈ gtbl := gt2 (i := 11) rfl rfl
theorem q_253 : (Cond.laysFinal "FlatPlan$State" "FlatPlan$State" "stories" "LFlatPlan$Stories;") ∈ gtbl := gt2 (i := 13) rfl rfl
theorem q_255 : (Cond.laysFinal "FlatPlan$State" "FlatPlan$State" "standbys" "LFlatPlan$Standbys;") ∈ gtbl := gt2 (i := 15) rfl rfl
theorem q_257 : (Cond.laysFinal "FlatPlan$State" "FlatPlan$State" "forms" "LFlatPlan$Forms;") ∈ gtbl := gt2 (i := 17) rfl rfl
theorem q_259 : (Cond.lays "FlatPlan$State" "FlatPlan$State" "signatures" "I") ∈ gtbl := gt2 (i := 19) rfl rfl
theorem q_261 : (Cond.lays "FlatPlan$State" "FlatPlan$State" "signaturePages" "I") ∈ gtbl := gt2 (i := 21) rfl rfl
theorem q_263 : (Cond.lays "FlatPlan$State" "FlatPlan$State" "time" "I") ∈ gtbl := gt2 (i := 23) rfl rfl
theorem q_265 : (Cond.lays "FlatPlan$State" "FlatPlan$State" "lost" "I") ∈ gtbl := gt2 (i := 25) rfl rfl
theorem q_268 : (Cond.methodLink "FlatPlan$Plan" (34 : Nat) ({ cls := "FlatPlan$Plan", name := "begin", desc := "(II)V" } : Jvm.MethodName)) ∈ gtbl := gt2 (i := 28) rfl rfl
theorem q_269 : (Cond.instanceMethod ({ cls := "FlatPlan$Plan", name := "begin", desc := "(II)V" } : Jvm.MethodName)) ∈ gtbl := gt2 (i := 29) rfl rfl
theorem q_270 : (Cond.selects "FlatPlan$Plan" ({ cls := "FlatPlan$Plan", name := "begin", desc := "(II)V" } : Jvm.MethodName) ({ cls := "FlatPlan$Plan", name := "begin", desc := "(II)V" } : Jvm.MethodName)) ∈ gtbl := gt2 (i := 30) rfl rfl
theorem q_271 : (Cond.code ({ cls := "FlatPlan$Plan", name := "begin", desc := "(II)V" } : Jvm.MethodName) prog_6_method_2_code (3 : Nat) (Option.none : Option FieldType)) ∈ gtbl := gt2 (i := 31) rfl rfl
theorem q_272 : (Cond.methodLink "FlatPlan$Plan" (83 : Nat) ({ cls := "java/util/Arrays", name := "fill", desc := "([II)V" } : Jvm.MethodName)) ∈ gtbl := gt2 (i := 32) rfl rfl
theorem q_273 : (Cond.static ({ cls := "java/util/Arrays", name := "fill", desc := "([II)V" } : Jvm.MethodName)) ∈ gtbl := gt2 (i := 33) rfl rfl
theorem q_274 : (Cond.code ({ cls := "java/util/Arrays", name := "fill", desc := "([II)V" } : Jvm.MethodName) prog_27_method_103_code (4 : Nat) (Option.none : Option FieldType)) ∈ gtbl := gt2 (i := 34) rfl rfl
theorem q_275 : (Cond.methodLink "FlatPlan$Plan" (95 : Nat) ({ cls := "FlatPlan$Plan", name := "layOut", desc := "()V" } : Jvm.MethodName)) ∈ gtbl := gt2 (i := 35) rfl rfl
theorem q_277 : (Cond.instanceMethod ({ cls := "FlatPlan$Plan", name := "layOut", desc := "()V" } : Jvm.MethodName)) ∈ gtbl := gt2 (i := 37) rfl rfl
theorem q_278 : (Cond.code ({ cls := "FlatPlan$Plan", name := "layOut", desc := "()V" } : Jvm.MethodName) prog_6_method_4_code (5 : Nat) (Option.none : Option FieldType)) ∈ gtbl := gt2 (i := 38) rfl rfl
theorem q_279 : (Cond.methodLink "FlatPlan$Plan" (105 : Nat) ({ cls := "java/lang/Math", name := "min", desc := "(II)I" } : Jvm.MethodName)) ∈ gtbl := gt2 (i := 39) rfl rfl
theorem q_280 : (Cond.static ({ cls := "java/lang/Math", name := "min", desc := "(II)I" } : Jvm.MethodName)) ∈ gtbl := gt2 (i := 40) rfl rfl
theorem q_281 : (Cond.code ({ cls := "java/lang/Math", name := "min", desc := "(II)I" } : Jvm.MethodName) prog_20_method_69_code (2 : Nat) (Option.some FieldType.int)) ∈ gtbl := gt2 (i := 41) rfl rfl
theorem q_282 : (Cond.methodLink "FlatPlan$Plan" (98 : Nat) ({ cls := "FlatPlan$Plan", name := "recount", desc := "()V" } : Jvm.MethodName)) ∈ gtbl := gt2 (i := 42) rfl rfl
theorem q_283 : (Cond.instanceMethod ({ cls := "FlatPlan$Plan", name := "recount", desc := "()V" } : Jvm.MethodName)) ∈ gtbl := gt2 (i := 43) rfl rfl
theorem q_284 : (Cond.selects "FlatPlan$Plan" ({ cls := "FlatPlan$Plan", name := "recount", desc := "()V" } : Jvm.MethodName) ({ cls := "FlatPlan$Plan", name := "recount", desc := "()V" } : Jvm.MethodName)) ∈ gtbl := gt2 (i := 44) rfl rfl
theorem q_285 : (Cond.code ({ cls := "FlatPlan$Plan", name := "recount", desc := "()V" } : Jvm.MethodName) prog_6_method_5_code (8 : Nat) (Option.none : Option FieldType)) ∈ gtbl := gt2 (i := 45) rfl rfl
theorem q_286 : (Cond.methodLink "FlatPlan$Plan" (119 : Nat) ({ cls := "FlatPlan$Plan", name := "hasPage", desc := "(I)Z" } : Jvm.MethodName)) ∈ gtbl := gt2 (i := 46) rfl rfl
theorem q_287 : (Cond.instanceMethod ({ cls := "FlatPlan$Plan", name := "hasPage", desc := "(I)Z" } : Jvm.MethodName)) ∈ gtbl := gt2 (i := 47) rfl rfl
theorem q_288 : (Cond.selects "FlatPlan$Plan" ({ cls := "FlatPlan$Plan", name := "hasPage", desc := "(I)Z" } : Jvm.MethodName) ({ cls := "FlatPlan$Plan", name := "hasPage", desc := "(I)Z" } : Jvm.MethodName)) ∈ gtbl := gt2 (i := 48) rfl rfl
theorem q_289 : (Cond.code ({ cls := "FlatPlan$Plan", name := "hasPage", desc := "(I)Z" } : Jvm.MethodName) prog_6_method_6_code (2 : Nat) (Option.some FieldType.boolean)) ∈ gtbl := gt2 (i := 49) rfl rfl
theorem q_290 : (Cond.fieldLink "FlatPlan$Plan" (12 : Nat) "FlatPlan$Plan" "now" "LFlatPlan$State;") ∈ gtbl := gt2 (i := 50) rfl rfl
theorem q_291 : (Cond.fieldLink "FlatPlan$Searches" (18 : Nat) "FlatPlan$Plan" "now" "LFlatPlan$State;") ∈ gtbl := gt2 (i := 51) rfl rfl
theorem q_292 : (Cond.fieldLink "FlatPlan" (64 : Nat) "FlatPlan$Plan" "now" "LFlatPlan$State;") ∈ gtbl := gt2 (i := 52) rfl rfl
theorem q_293 : (Cond.fieldLink "FlatPlan$Reader" (113 : Nat) "FlatPlan$Plan" "now" "LFlatPlan$State;") ∈ gtbl := gt2 (i := 53) rfl rfl
theorem q_294 : (Cond.fieldLink "FlatPlan$Plan" (111 : Nat) "FlatPlan$Plan" "pages" "I") ∈ gtbl := gt2 (i := 54) rfl rfl
theorem q_295 : (Cond.fieldLink "FlatPlan$Searches" (99 : Nat) "FlatPlan$Plan" "pages" "I") ∈ gtbl := gt2 (i := 55) rfl rfl
theorem q_296 : (Cond.fieldLink "FlatPlan" (83 : Nat) "FlatPlan$Plan" "pages" "I") ∈ gtbl := gt2 (i := 56) rfl rfl
theorem q_297 : (Cond.fieldLink "FlatPlan$Reader" (168 : Nat) "FlatPlan$Plan" "pages" "I") ∈ gtbl := gt2 (i := 57) rfl rfl
theorem q_298 : (Cond.fieldLink "FlatPlan$Plan" (114 : Nat) "FlatPlan$Plan" "forms" "I") ∈ gtbl := gt2 (i := 58) rfl rfl
theorem q_299 : (Cond.fieldLink "FlatPlan$Reader" (110 : Nat) "FlatPlan$Plan" "forms" "I") ∈ gtbl := gt2 (i := 59) rfl rfl
theorem q_300 : (Cond.fieldLink "FlatPlan" (91 : Nat) "FlatPlan$Plan" "forms" "I") ∈ gtbl := gt2 (i := 60) rfl rfl
theorem q_301 : (Cond.fieldLink "FlatPlan$Searches" (156 : Nat) "FlatPlan$Plan" "forms" "I") ∈ gtbl := gt2 (i := 61) rfl rfl
theorem q_302 : (Cond.fieldLink "FlatPlan$Plan" (18 : Nat) "FlatPlan$Plan" "formOf" "[I") ∈ gtbl := gt2 (i := 62) rfl rfl
theorem q_303 : (Cond.fieldLink "FlatPlan" (210 : Nat) "FlatPlan$Plan" "formOf" "[I") ∈ gtbl := gt2 (i := 63) rfl rfl
theorem q_304 : (Cond.fieldLink "FlatPlan$Searches" (195 : Nat) "FlatPlan$Plan" "formOf" "[I") ∈ gtbl := gt2 (i := 64) rfl rfl
theorem q_305 : (Cond.fieldLink "FlatPlan$Plan" (22 : Nat) "FlatPlan$Plan" "signatureOf" "[I") ∈ gtbl := gt2 (i := 65) rfl rfl
theorem q_306 : (Cond.fieldLink "FlatPlan" (207 : Nat) "FlatPlan$Plan" "signatureOf" "[I") ∈ gtbl := gt2 (i := 66) rfl rfl
theorem q_307 : (Cond.fieldLink "FlatPlan$Plan" (25 : Nat) "FlatPlan$Plan" "left" "[I") ∈ gtbl := gt2 (i := 67) rfl rfl
theorem q_308 : (Cond.fieldLink "FlatPlan" (213 : Nat) "FlatPlan$Plan" "left" "[I") ∈ gtbl := gt2 (i := 68) rfl rfl
theorem q_309 : (Cond.fieldLink "FlatPlan$Plan" (28 : Nat) "FlatPlan$Plan" "storyOn" "[I") ∈ gtbl := gt2 (i := 69) rfl rfl
theorem q_310 : (Cond.fieldLink "FlatPlan$Searches" (115 : Nat) "FlatPlan$Plan" "storyOn" "[I") ∈ gtbl := gt2 (i := 70) rfl rfl
theorem q_311 : (Cond.fieldLink "FlatPlan" (220 : Nat) "FlatPlan$Plan" "storyOn" "[I") ∈ gtbl := gt2 (i := 71) rfl rfl
theorem q_312 : (Cond.fieldLink "FlatPlan$Plan" (31 : Nat) "FlatPlan$Plan" "adsOfGroup" "[I") ∈ gtbl := gt2 (i := 72) rfl rfl
theorem q_313 : (Cond.fieldLink "FlatPlan" (334 : Nat) "FlatPlan$Plan" "adsOfGroup" "[I") ∈ gtbl := gt2 (i := 73) rfl rfl
theorem q_314 : (Cond.laysFinal "FlatPlan$Plan" "FlatPlan$Plan" "now" "LFlatPlan$State;") ∈ gtbl := gt2 (i := 74) rfl rfl
theorem q_316 : (Cond.lays "FlatPlan$Plan" "FlatPlan$Plan" "pages" "I") ∈ gtbl := gt2 (i := 76) rfl rfl
theorem q_318 : (Cond.lays "FlatPlan$Plan" "FlatPlan$Plan" "forms" "I") ∈ gtbl := gt2 (i := 78) rfl rfl
theorem q_320 : (Cond.laysFinal "FlatPlan$Plan" "FlatPlan$Plan" "formOf" "[I") ∈ gtbl := gt2 (i := 80) rfl rfl
theorem q_322 : (Cond.laysFinal "FlatPlan$Plan" "FlatPlan$Plan" "signatureOf" "[I") ∈ gtbl := gt2 (i := 82) rfl rfl
theorem q_324 : (Cond.laysFinal "FlatPlan$Plan" "FlatPlan$Plan" "left" "[I") ∈ gtbl := gt2 (i := 84) rfl rfl
theorem q_326 : (Cond.laysFinal "FlatPlan$Plan" "FlatPlan$Plan" "storyOn" "[I") ∈ gtbl := gt2 (i := 86) rfl rfl
theorem q_328 : (Cond.laysFinal "FlatPlan$Plan" "FlatPlan$Plan" "adsOfGroup" "[I") ∈ gtbl := gt2 (i := 88) rfl rfl
theorem q_331 : (Cond.fieldLink "FlatPlan$Reader" (14 : Nat) "FlatPlan$Reader" "text" "LFlatPlan$Bytes;") ∈ gtbl := gt2 (i := 91) rfl rfl
theorem q_332 : (Cond.fieldLink "FlatPlan" (16 : Nat) "FlatPlan$Reader" "text" "LFlatPlan$Bytes;") ∈ gtbl := gt2 (i := 92) rfl rfl
theorem q_333 : (Cond.fieldLink "FlatPlan$Reader" (23 : Nat) "FlatPlan$Reader" "draft" "LFlatPlan$Plan;") ∈ gtbl := gt2 (i := 93) rfl rfl
theorem q_334 : (Cond.fieldLink "FlatPlan" (61 : Nat) "FlatPlan$Reader" "draft" "LFlatPlan$Plan;") ∈ gtbl := gt2 (i := 94) rfl rfl
theorem q_335 : (Cond.fieldLink "FlatPlan$Reader" (27 : Nat) "FlatPlan$Reader" "value" "[I") ∈ gtbl := gt2 (i := 95) rfl rfl
theorem q_336 : (Cond.fieldLink "FlatPlan$Reader" (38 : Nat) "FlatPlan$Reader" "at" "I") ∈ gtbl := gt2 (i := 96) rfl rfl
theorem q_337 : (Cond.fieldLink "FlatPlan$Reader" (58 : Nat) "FlatPlan$Reader" "kind" "I") ∈ gtbl := gt2 (i := 97) rfl rfl
theorem q_338 : (Cond.fieldLink "FlatPlan$Reader" (192 : Nat) "FlatPlan$Reader" "start" "I") ∈ gtbl := gt2 (i := 98) rfl rfl
theorem q_339 : (Cond.fieldLink "FlatPlan$Reader" (35 : Nat) "FlatPlan$Reader" "code" "I") ∈ gtbl := gt2 (i := 99) rfl rfl
theorem q_340 : (Cond.fieldLink "FlatPlan" (77 : Nat) "FlatPlan$Reader" "code" "I") ∈ gtbl := gt2 (i := 100) rfl rfl
theorem q_341 : (Cond.fieldLink "FlatPlan$Reader" (31 : Nat) "FlatPlan$Reader" "position" "I") ∈ gtbl := gt2 (i := 101) rfl rfl
theorem q_342 : (Cond.fieldLink "FlatPlan" (80 : Nat) "FlatPlan$Reader" "position" "I") ∈ gtbl := gt2 (i := 102) rfl rfl
theorem q_343 : (Cond.laysFinal "FlatPlan$Reader" "FlatPlan$Reader" "text" "LFlatPlan$Bytes;") ∈ gtbl := gt2 (i := 103) rfl rfl
theorem q_345 : (Cond.laysFinal "FlatPlan$Reader" "FlatPlan$Reader" "draft" "LFlatPlan$Plan;") ∈ gtbl := gt2 (i := 105) rfl rfl
theorem q_347 : (Cond.laysFinal "FlatPlan$Reader" "FlatPlan$Reader" "value" "[I") ∈ gtbl := gt2 (i := 107) rfl rfl
theorem q_349 : (Cond.lays "FlatPlan$Reader" "FlatPlan$Reader" "at" "I") ∈ gtbl := gt2 (i := 109) rfl rfl
theorem q_351 : (Cond.lays "FlatPlan$Reader" "FlatPlan$Reader" "kind" "I") ∈ gtbl := gt2 (i := 111) rfl rfl
theorem q_353 : (Cond.lays "FlatPlan$Reader" "FlatPlan$Reader" "start" "I") ∈ gtbl := gt2 (i := 113) rfl rfl
theorem q_355 : (Cond.lays "FlatPlan$Reader" "FlatPlan$Reader" "code" "I") ∈ gtbl := gt2 (i := 115) rfl rfl
theorem q_357 : (Cond.lays "FlatPlan$Reader" "FlatPlan$Reader" "position" "I") ∈ gtbl := gt2 (i := 117) rfl rfl
theorem q_360 : (Cond.classLink "FlatPlan" (23 : Nat) "FlatPlan$Searches") ∈ gtbl := gt2 (i := 120) rfl rfl
theorem q_361 : (Cond.instantiable "FlatPlan$Searches" (10 : Nat)) ∈ gtbl := gt2 (i := 121) rfl rfl
theorem q_363 : (Cond.instanceMethod ({ cls := "FlatPlan$Searches", name := "<init>", desc := "()V" } : Jvm.MethodName)) ∈ gtbl := gt2 (i := 123) rfl rfl
theorem q_364 : (Cond.code ({ cls := "FlatPlan$Searches", name := "<init>", desc := "()V" } : Jvm.MethodName) prog_8_method_1_code (1 : Nat) (Option.none : Option FieldType)) ∈ gtbl := gt2 (i := 124) rfl rfl
theorem q_365 : (Cond.methodLink "FlatPlan$Searches" (3 : Nat) ({ cls := "java/lang/Object", name := "<init>", desc := "()V" } : Jvm.MethodName)) ∈ gtbl := gt2 (i := 125) rfl rfl
theorem q_366 : (Cond.classLink "FlatPlan$Searches" (9 : Nat) "FlatPlan$Plan") ∈ gtbl := gt2 (i := 126) rfl rfl
theorem q_367 : (Cond.methodLink "FlatPlan$Searches" (11 : Nat) ({ cls := "FlatPlan$Plan", name := "<init>", desc := "()V" } : Jvm.MethodName)) ∈ gtbl := gt2 (i := 127) rfl rfl
theorem q_368 : (Cond.fieldLink "FlatPlan$Searches" (12 : Nat) "FlatPlan$Searches" "plan" "LFlatPlan$Plan;") ∈ gtbl := gt2 (i := 128) rfl rfl
theorem q_369 : (Cond.fieldLink "FlatPlan" (30 : Nat) "FlatPlan$Searches" "plan" "LFlatPlan$Plan;") ∈ gtbl := gt2 (i := 129) rfl rfl
theorem q_370 : (Cond.fieldLink "FlatPlan$Searches" (22 : Nat) "FlatPlan$Searches" "now" "LFlatPlan$State;") ∈ gtbl := gt2 (i := 130) rfl rfl
theorem q_371 : (Cond.fieldLink "FlatPlan$Searches" (23 : Nat) "FlatPlan$Searches" "order" "[I") ∈ gtbl := gt2 (i := 131) rfl rfl
theorem q_372 : (Cond.fieldLink "FlatPlan$Searches" (27 : Nat) "FlatPlan$Searches" "onPage" "[I") ∈ gtbl := gt2 (i := 132) rfl rfl
theorem q_373 : (Cond.fieldLink "FlatPlan$Searches" (30 : Nat) "FlatPlan$Searches" "adMatched" "[I") ∈ gtbl := gt2 (i := 133) rfl rfl
theorem q_374 : (Cond.fieldLink "FlatPlan$Searches" (33 : Nat) "FlatPlan$Searches" "pageMatched" "[I") ∈ gtbl := gt2 (i := 134) rfl rfl
theorem q_375 : (Cond.fieldLink "FlatPlan$Searches" (36 : Nat) "FlatPlan$Searches" "reachedBy" "[I") ∈ gtbl := gt2 (i := 135) rfl rfl
theorem q_376 : (Cond.fieldLink "FlatPlan$Searches" (39 : Nat) "FlatPlan$Searches" "waiting" "[I") ∈ gtbl := gt2 (i := 136) rfl rfl
theorem q_377 : (Cond.fieldLink "FlatPlan$Searches" (42 : Nat) "FlatPlan$Searches" "colorPages" "[I") ∈ gtbl := gt2 (i := 137) rfl rfl
theorem q_378 : (Cond.fieldLink "FlatPlan$Searches" (45 : Nat) "FlatPlan$Searches" "hasColor" "[I") ∈ gtbl := gt2 (i := 138) rfl rfl
theorem q_379 : (Cond.laysFinal "FlatPlan$Searches" "FlatPlan$Searches" "plan" "LFlatPlan$Plan;") ∈ gtbl := gt2 (i := 139) rfl rfl
theorem q_381 : (Cond.laysFinal "FlatPlan$Searches" "FlatPlan$Searches" "now" "LFlatPlan$State;") ∈ gtbl := gt2 (i := 141) rfl rfl
theorem q_383 : (Cond.laysFinal "FlatPlan$Searches" "FlatPlan$Searches" "order" "[I") ∈ gtbl := gt2 (i := 143) rfl rfl
theorem q_385 : (Cond.laysFinal "FlatPlan$Searches" "FlatPlan$Searches" "onPage" "[I") ∈ gtbl := gt2 (i := 145) rfl rfl
theorem q_387 : (Cond.laysFinal "FlatPlan$Searches" "FlatPlan$Searches" "adMatched" "[I") ∈ gtbl := gt2 (i := 147) rfl rfl
theorem q_389 : (Cond.laysFinal "FlatPlan$Searches" "FlatPlan$Searches" "pageMatched" "[I") ∈ gtbl := gt2 (i := 149) rfl rfl
theorem q_391 : (Cond.laysFinal "FlatPlan$Searches" "FlatPlan$Searches" "reachedBy" "[I") ∈ gtbl := gt2 (i := 151) rfl rfl
theorem q_393 : (Cond.laysFinal "FlatPlan$Searches" "FlatPlan$Searches" "waiting" "[I") ∈ gtbl := gt2 (i := 153) rfl rfl
theorem q_395 : (Cond.laysFinal "FlatPlan$Searches" "FlatPlan$Searches" "colorPages" "[I") ∈ gtbl := gt2 (i := 155) rfl rfl
theorem q_397 : (Cond.laysFinal "FlatPlan$Searches" "FlatPlan$Searches" "hasColor" "[I") ∈ gtbl := gt2 (i := 157) rfl rfl
theorem q_400 : (Cond.classLink "FlatPlan" (35 : Nat) "FlatPlan$History") ∈ gtbl := gt2 (i := 160) rfl rfl
theorem q_401 : (Cond.instantiable "FlatPlan$History" (3 : Nat)) ∈ gtbl := gt2 (i := 161) rfl rfl
theorem q_402 : (Cond.methodLink "FlatPlan" (37 : Nat) ({ cls := "FlatPlan$History", name := "<init>", desc := "()V" } : Jvm.MethodName)) ∈ gtbl := gt2 (i := 162) rfl rfl
theorem q_403 : (Cond.instanceMethod ({ cls := "FlatPlan$History", name := "<init>", desc := "()V" } : Jvm.MethodName)) ∈ gtbl := gt2 (i := 163) rfl rfl
theorem q_404 : (Cond.code ({ cls := "FlatPlan$History", name := "<init>", desc := "()V" } : Jvm.MethodName) prog_5_method_1_code (2 : Nat) (Option.none : Option FieldType)) ∈ gtbl := gt2 (i := 164) rfl rfl
theorem q_405 : (Cond.methodLink "FlatPlan$History" (3 : Nat) ({ cls := "java/lang/Object", name := "<init>", desc := "()V" } : Jvm.MethodName)) ∈ gtbl := gt2 (i := 165) rfl rfl
theorem q_406 : (Cond.classLink "FlatPlan$History" (9 : Nat) "FlatPlan$State") ∈ gtbl := gt2 (i := 166) rfl rfl
theorem q_409 : (Cond.fieldLink "FlatPlan$History" (11 : Nat) "FlatPlan$History" "kept" "[LFlatPlan$State;") ∈ gtbl := gt2 (i := 169) rfl rfl
theorem q_410 : (Cond.fieldLink "FlatPlan$History" (18 : Nat) "FlatPlan$History" "next" "I") ∈ gtbl := gt2 (i := 170) rfl rfl
theorem q_411 : (Cond.fieldLink "FlatPlan$History" (26 : Nat) "FlatPlan$History" "number" "I") ∈ gtbl := gt2 (i := 171) rfl rfl
theorem q_412 : (Cond.fieldLink "FlatPlan" (362 : Nat) "FlatPlan$History" "number" "I") ∈ gtbl := gt2 (i := 172) rfl rfl
theorem q_413 : (Cond.laysFinal "FlatPlan$History" "FlatPlan$History" "kept" "[LFlatPlan$State;") ∈ gtbl := gt2 (i := 173) rfl rfl
theorem q_415 : (Cond.lays "FlatPlan$History" "FlatPlan$History" "next" "I") ∈ gtbl := gt2 (i := 175) rfl rfl
theorem q_417 : (Cond.lays "FlatPlan$History" "FlatPlan$History" "number" "I") ∈ gtbl := gt2 (i := 177) rfl rfl
theorem q_420 : (Cond.classLink "FlatPlan" (42 : Nat) "FlatPlan$Bytes") ∈ gtbl := gt2 (i := 180) rfl rfl
theorem q_421 : (Cond.methodLink "FlatPlan" (44 : Nat) ({ cls := "FlatPlan$Bytes", name := "<init>", desc := "(I)V" } : Jvm.MethodName)) ∈ gtbl := gt2 (i := 181) rfl rfl
theorem q_422 : (Cond.fieldLink "FlatPlan" (10 : Nat) "FlatPlan" "reader" "LFlatPlan$Reader;") ∈ gtbl := gt2 (i := 182) rfl rfl
theorem q_423 : (Cond.fieldLink "FlatPlan" (20 : Nat) "FlatPlan" "input" "LFlatPlan$Bytes;") ∈ gtbl := gt2 (i := 183) rfl rfl
theorem q_424 : (Cond.fieldLink "FlatPlan" (26 : Nat) "FlatPlan" "searches" "LFlatPlan$Searches;") ∈ gtbl := gt2 (i := 184) rfl rfl
theorem q_425 : (Cond.fieldLink "FlatPlan" (34 : Nat) "FlatPlan" "plan" "LFlatPlan$Plan;") ∈ gtbl := gt2 (i := 185) rfl rfl
theorem q_426 : (Cond.fieldLink "FlatPlan" (38 : Nat) "FlatPlan" "history" "LFlatPlan$History;") ∈ gtbl := gt2 (i := 186) rfl rfl
theorem q_427 : (Cond.fieldLink "FlatPlan" (47 : Nat) "FlatPlan" "description" "LFlatPlan$Bytes;") ∈ gtbl := gt2 (i := 187) rfl rfl
theorem q_428 : (Cond.laysFinal "FlatPlan" "FlatPlan" "reader" "LFlatPlan$Reader;") ∈ gtbl := gt2 (i := 188) rfl rfl
theorem q_430 : (Cond.laysFinal "FlatPlan" "FlatPlan" "input" "LFlatPlan$Bytes;") ∈ gtbl := gt2 (i := 190) rfl rfl
theorem q_432 : (Cond.laysFinal "FlatPlan" "FlatPlan" "searches" "LFlatPlan$Searches;") ∈ gtbl := gt2 (i := 192) rfl rfl
theorem q_434 : (Cond.laysFinal "FlatPlan" "FlatPlan" "plan" "LFlatPlan$Plan;") ∈ gtbl := gt2 (i := 194) rfl rfl
theorem q_436 : (Cond.laysFinal "FlatPlan" "FlatPlan" "history" "LFlatPlan$History;") ∈ gtbl := gt2 (i := 196) rfl rfl
theorem q_438 : (Cond.laysFinal "FlatPlan" "FlatPlan" "description" "LFlatPlan$Bytes;") ∈ gtbl := gt2 (i := 198) rfl rfl
theorem q_441 : (Cond.methodLink "FlatPlanLaw" (131 : Nat) ({ cls := "FlatPlan", name := "appendInput", desc := "(IIIII)I" } : Jvm.MethodName)) ∈ gtbl := gt2 (i := 201) rfl rfl
theorem q_442 : (Cond.instanceMethod ({ cls := "FlatPlan", name := "appendInput", desc := "(IIIII)I" } : Jvm.MethodName)) ∈ gtbl := gt2 (i := 202) rfl rfl
theorem q_443 : (Cond.selects "FlatPlan" ({ cls := "FlatPlan", name := "appendInput", desc := "(IIIII)I" } : Jvm.MethodName) ({ cls := "FlatPlan", name := "appendInput", desc := "(IIIII)I" } : Jvm.MethodName)) ∈ gtbl := gt2 (i := 203) rfl rfl
theorem q_444 : (Cond.code ({ cls := "FlatPlan", name := "appendInput", desc := "(IIIII)I" } : Jvm.MethodName) prog_1_method_2_code (6 : Nat) (Option.some FieldType.int)) ∈ gtbl := gt2 (i := 204) rfl rfl
theorem q_445 : (Cond.methodLink "FlatPlan" (54 : Nat) ({ cls := "FlatPlan$Bytes", name := "addWord", desc := "(I)V" } : Jvm.MethodName)) ∈ gtbl := gt2 (i := 205) rfl rfl
theorem q_446 : (Cond.instanceMethod ({ cls := "FlatPlan$Bytes", name := "addWord", desc := "(I)V" } : Jvm.MethodName)) ∈ gtbl := gt2 (i := 206) rfl rfl
theorem q_447 : (Cond.selects "FlatPlan$Bytes" ({ cls := "FlatPlan$Bytes", name := "addWord", desc := "(I)V" } : Jvm.MethodName) ({ cls := "FlatPlan$Bytes", name := "addWord", desc := "(I)V" } : Jvm.MethodName)) ∈ gtbl := gt2 (i := 207) rfl rfl
theorem q_448 : (Cond.code ({ cls := "FlatPlan$Bytes", name := "addWord", desc := "(I)V" } : Jvm.MethodName) prog_3_method_3_code (2 : Nat) (Option.none : Option FieldType)) ∈ gtbl := gt2 (i := 208) rfl rfl
theorem q_449 : (Cond.methodLink "FlatPlan$Bytes" (19 : Nat) ({ cls := "FlatPlan$Bytes", name := "addByte", desc := "(I)V" } : Jvm.MethodName)) ∈ gtbl := gt2 (i := 209) rfl rfl
theorem q_450 : (Cond.instanceMethod ({ cls := "FlatPlan$Bytes", name := "addByte", desc := "(I)V" } : Jvm.MethodName)) ∈ gtbl := gt2 (i := 210) rfl rfl
theorem q_451 : (Cond.selects "FlatPlan$Bytes" ({ cls := "FlatPlan$Bytes", name := "addByte", desc := "(I)V" } : Jvm.MethodName) ({ cls := "FlatPlan$Bytes", name := "addByte", desc := "(I)V" } : Jvm.MethodName)) ∈ gtbl := gt2 (i := 211) rfl rfl
theorem q_452 : (Cond.code ({ cls := "FlatPlan$Bytes", name := "addByte", desc := "(I)V" } : Jvm.MethodName) prog_3_method_2_code (2 : Nat) (Option.none : Option FieldType)) ∈ gtbl := gt2 (i := 212) rfl rfl
theorem q_453 : (Cond.methodLink "FlatPlanLaw" (136 : Nat) ({ cls := "FlatPlan", name := "truncateInput", desc := "(I)I" } : Jvm.MethodName)) ∈ gtbl := gt2 (i := 213) rfl rfl
theorem q_454 : (Cond.instanceMethod ({ cls := "FlatPlan", name := "truncateInput", desc := "(I)I" } : Jvm.MethodName)) ∈ gtbl := gt2 (i := 214) rfl rfl
theorem q_455 : (Cond.selects "FlatPlan" ({ cls := "FlatPlan", name := "truncateInput", desc := "(I)I" } : Jvm.MethodName) ({ cls := "FlatPlan", name := "truncateInput", desc := "(I)I" } : Jvm.MethodName)) ∈ gtbl := gt2 (i := 215) rfl rfl
theorem q_456 : (Cond.code ({ cls := "FlatPlan", name := "truncateInput", desc := "(I)I" } : Jvm.MethodName) prog_1_method_3_code (2 : Nat) (Option.some FieldType.int)) ∈ gtbl := gt2 (i := 216) rfl rfl
theorem q_457 : (Cond.methodLink "FlatPlanLaw" (140 : Nat) ({ cls := "FlatPlan", name := "load", desc := "()I" } : Jvm.MethodName)) ∈ gtbl := gt2 (i := 217) rfl rfl
theorem q_458 : (Cond.instanceMethod ({ cls := "FlatPlan", name := "load", desc := "()I" } : Jvm.MethodName)) ∈ gtbl := gt2 (i := 218) rfl rfl
theorem q_459 : (Cond.selects "FlatPlan" ({ cls := "FlatPlan", name := "load", desc := "()I" } : Jvm.MethodName) ({ cls := "FlatPlan", name := "load", desc := "()I" } : Jvm.MethodName)) ∈ gtbl := gt2 (i := 219) rfl rfl
theorem q_460 : (Cond.code ({ cls := "FlatPlan", name := "load", desc := "()I" } : Jvm.MethodName) prog_1_method_4_code (2 : Nat) (Option.some FieldType.int)) ∈ gtbl := gt2 (i := 220) rfl rfl
theorem q_461 : (Cond.methodLink "FlatPlan" (57 : Nat) ({ cls := "FlatPlan$Reader", name := "readText", desc := "()I" } : Jvm.MethodName)) ∈ gtbl := gt2 (i := 221) rfl rfl
theorem q_462 : (Cond.instanceMethod ({ cls := "FlatPlan$Reader", name := "readText", desc := "()I" } : Jvm.MethodName)) ∈ gtbl := gt2 (i := 222) rfl rfl
theorem q_463 : (Cond.selects "FlatPlan$Reader" ({ cls := "FlatPlan$Reader", name := "readText", desc := "()I" } : Jvm.MethodName) ({ cls := "FlatPlan$Reader", name := "readText", desc := "()I" } : Jvm.MethodName)) ∈ gtbl := gt2 (i := 223) rfl rfl
theorem q_464 : (Cond.code ({ cls := "FlatPlan$Reader", name := "readText", desc := "()I" } : Jvm.MethodName) prog_7_method_2_code (3 : Nat) (Option.some FieldType.int)) ∈ gtbl := gt2 (i := 224) rfl rfl
theorem q_465 : (Cond.methodLink "FlatPlan$Reader" (41 : Nat) ({ cls := "FlatPlan$Plan", name := "begin", desc := "(II)V" } : Jvm.MethodName)) ∈ gtbl := gt2 (i := 225) rfl rfl
theorem q_466 : (Cond.methodLink "FlatPlan$Reader" (45 : Nat) ({ cls := "FlatPlan$Reader", name := "nextToken", desc := "()V" } : Jvm.MethodName)) ∈ gtbl := gt2 (i := 226) rfl rfl
theorem q_468 : (Cond.instanceMethod ({ cls := "FlatPlan$Reader", name := "nextToken", desc := "()V" } : Jvm.MethodName)) ∈ gtbl := gt2 (i := 228) rfl rfl
theorem q_469 : (Cond.code ({ cls := "FlatPlan$Reader", name := "nextToken", desc := "()V" } : Jvm.MethodName) prog_7_method_16_code (1 : Nat) (Option.none : Option FieldType)) ∈ gtbl := gt2 (i := 229) rfl rfl
theorem q_470 : (Cond.methodLink "FlatPlan$Reader" (198 : Nat) ({ cls := "FlatPlan$Bytes", name := "byteAt", desc := "(I)I" } : Jvm.MethodName)) ∈ gtbl := gt2 (i := 230) rfl rfl
theorem q_471 : (Cond.instanceMethod ({ cls := "FlatPlan$Bytes", name := "byteAt", desc := "(I)I" } : Jvm.MethodName)) ∈ gtbl := gt2 (i := 231) rfl rfl
theorem q_472 : (Cond.selects "FlatPlan$Bytes" ({ cls := "FlatPlan$Bytes", name := "byteAt", desc := "(I)I" } : Jvm.MethodName) ({ cls := "FlatPlan$Bytes", name := "byteAt", desc := "(I)I" } : Jvm.MethodName)) ∈ gtbl := gt2 (i := 232) rfl rfl
theorem q_473 : (Cond.code ({ cls := "FlatPlan$Bytes", name := "byteAt", desc := "(I)I" } : Jvm.MethodName) prog_3_method_5_code (2 : Nat) (Option.some FieldType.int)) ∈ gtbl := gt2 (i := 233) rfl rfl
theorem q_474 : (Cond.methodLink "FlatPlan$Reader" (202 : Nat) ({ cls := "FlatPlan$Reader", name := "isLetter", desc := "(I)Z" } : Jvm.MethodName)) ∈ gtbl := gt2 (i := 234) rfl rfl
theorem q_475 : (Cond.static ({ cls := "FlatPlan$Reader", name := "isLetter", desc := "(I)Z" } : Jvm.MethodName)) ∈ gtbl := gt2 (i := 235) rfl rfl
theorem q_476 : (Cond.code ({ cls := "FlatPlan$Reader", name := "isLetter", desc := "(I)Z" } : Jvm.MethodName) prog_7_method_17_code (1 : Nat) (Option.some FieldType.boolean)) ∈ gtbl := gt2 (i := 236) rfl rfl
theorem q_477 : (Cond.methodLink "FlatPlan$Reader" (205 : Nat) ({ cls := "FlatPlan$Reader", name := "isDigit", desc := "(I)Z" } : Jvm.MethodName)) ∈ gtbl := gt2 (i := 237) rfl rfl
theorem q_478 : (Cond.static ({ cls := "FlatPlan$Reader", name := "isDigit", desc := "(I)Z" } : Jvm.MethodName)) ∈ gtbl := gt2 (i := 238) rfl rfl
theorem q_479 : (Cond.code ({ cls := "FlatPlan$Reader", name := "isDigit", desc := "(I)Z" } : Jvm.MethodName) prog_7_method_18_code (1 : Nat) (Option.some FieldType.boolean)) ∈ gtbl := gt2 (i := 239) rfl rfl
theorem q_481 : (Cond.methodLink "FlatPlan$Reader" (50 : Nat) ({ cls := "FlatPlan$Reader", name := "isWord", desc := "(Ljava/lang/String;)Z" } : Jvm.MethodName)) ∈ gtbl := gt3 (i := 1) rfl rfl
theorem q_483 : (Cond.instanceMethod ({ cls := "FlatPlan$Reader", name := "isWord", desc := "(Ljava/lang/String;)Z" } : Jvm.MethodName)) ∈ gtbl := gt3 (i := 3) rfl rfl
theorem q_484 : (Cond.code ({ cls := "FlatPlan$Reader", name := "isWord", desc := "(Ljava/lang/String;)Z" } : Jvm.MethodName) prog_7_method_19_code (3 : Nat) (Option.some FieldType.boolean)) ∈ gtbl := gt3 (i := 4) rfl rfl
theorem q_485 : (Cond.methodLink "FlatPlan$Reader" (208 : Nat) ({ cls := "java/lang/String", name := "length", desc := "()I" } : Jvm.MethodName)) ∈ gtbl := gt3 (i := 5) rfl rfl
theorem q_486 : (Cond.instanceMethod ({ cls := "java/lang/String", name := "length", desc := "()I" } : Jvm.MethodName)) ∈ gtbl := gt3 (i := 6) rfl rfl
theorem q_487 : (Cond.selects "java/lang/String" ({ cls := "java/lang/String", name := "length", desc := "()I" } : Jvm.MethodName) ({ cls := "java/lang/String", name := "length", desc := "()I" } : Jvm.MethodName)) ∈ gtbl := gt3 (i := 7) rfl rfl
theorem q_488 : (Cond.code ({ cls := "java/lang/String", name := "length", desc := "()I" } : Jvm.MethodName) prog_22_method_54_code (1 : Nat) (Option.some FieldType.int)) ∈ gtbl := gt3 (i := 8) rfl rfl
theorem q_489 : (Cond.methodLink "java/lang/String" (335 : Nat) ({ cls := "java/lang/String", name := "coder", desc := "()B" } : Jvm.MethodName)) ∈ gtbl := gt3 (i := 9) rfl rfl
theorem q_490 : (Cond.instanceMethod ({ cls := "java/lang/String", name := "coder", desc := "()B" } : Jvm.MethodName)) ∈ gtbl := gt3 (i := 10) rfl rfl
theorem q_491 : (Cond.selects "java/lang/String" ({ cls := "java/lang/String", name := "coder", desc := "()B" } : Jvm.MethodName) ({ cls := "java/lang/String", name := "coder", desc := "()B" } : Jvm.MethodName)) ∈ gtbl := gt3 (i := 11) rfl rfl
theorem q_492 : (Cond.code ({ cls := "java/lang/String", name := "coder", desc := "()B" } : Jvm.MethodName) prog_22_method_152_code (1 : Nat) (Option.some FieldType.byte)) ∈ gtbl := gt3 (i := 12) rfl rfl
theorem q_493 : (Cond.fieldLink "java/lang/String" (38 : Nat) "java/lang/String" "COMPACT_STRINGS" "Z") ∈ gtbl := gt3 (i := 13) rfl rfl
theorem q_495 : (Cond.methodLink "FlatPlan$Reader" (212 : Nat) ({ cls := "java/lang/String", name := "charAt", desc := "(I)C" } : Jvm.MethodName)) ∈ gtbl := gt3 (i := 15) rfl rfl
theorem q_496 : (Cond.instanceMethod ({ cls := "java/lang/String", name := "charAt", desc := "(I)C" } : Jvm.MethodName)) ∈ gtbl := gt3 (i := 16) rfl rfl
theorem q_497 : (Cond.selects "java/lang/String" ({ cls := "java/lang/String", name := "charAt", desc := "(I)C" } : Jvm.MethodName) ({ cls := "java/lang/String", name := "charAt", desc := "(I)C" } : Jvm.MethodName)) ∈ gtbl := gt3 (i := 17) rfl rfl
theorem q_498 : (Cond.code ({ cls := "java/lang/String", name := "charAt", desc := "(I)C" } : Jvm.MethodName) prog_22_method_56_code (2 : Nat) (Option.some FieldType.char)) ∈ gtbl := gt3 (i := 18) rfl rfl
theorem q_499 : (Cond.methodLink "java/lang/String" (492 : Nat) ({ cls := "java/lang/String", name := "isLatin1", desc := "()Z" } : Jvm.MethodName)) ∈ gtbl := gt3 (i := 19) rfl rfl
theorem q_500 : (Cond.instanceMethod ({ cls := "java/lang/String", name := "isLatin1", desc := "()Z" } : Jvm.MethodName)) ∈ gtbl := gt3 (i := 20) rfl rfl
theorem q_501 : (Cond.selects "java/lang/String" ({ cls := "java/lang/String", name := "isLatin1", desc := "()Z" } : Jvm.MethodName) ({ cls := "java/lang/String", name := "isLatin1", desc := "()Z" } : Jvm.MethodName)) ∈ gtbl := gt3 (i := 21) rfl rfl
theorem q_502 : (Cond.code ({ cls := "java/lang/String", name := "isLatin1", desc := "()Z" } : Jvm.MethodName) prog_22_method_154_code (1 : Nat) (Option.some FieldType.boolean)) ∈ gtbl := gt3 (i := 22) rfl rfl
theorem q_503 : (Cond.methodLink "java/lang/String" (495 : Nat) ({ cls := "java/lang/StringLatin1", name := "charAt", desc := "([BI)C" } : Jvm.MethodName)) ∈ gtbl := gt3 (i := 23) rfl rfl
theorem q_504 : (Cond.static ({ cls := "java/lang/StringLatin1", name := "charAt", desc := "([BI)C" } : Jvm.MethodName)) ∈ gtbl := gt3 (i := 24) rfl rfl
theorem q_505 : (Cond.code ({ cls := "java/lang/StringLatin1", name := "charAt", desc := "([BI)C" } : Jvm.MethodName) prog_23_method_2_code (2 : Nat) (Option.some FieldType.char)) ∈ gtbl := gt3 (i := 25) rfl rfl
theorem q_506 : (Cond.methodLink "java/lang/StringLatin1" (9 : Nat) ({ cls := "java/lang/String", name := "checkIndex", desc := "(II)V" } : Jvm.MethodName)) ∈ gtbl := gt3 (i := 26) rfl rfl
theorem q_507 : (Cond.static ({ cls := "java/lang/String", name := "checkIndex", desc := "(II)V" } : Jvm.MethodName)) ∈ gtbl := gt3 (i := 27) rfl rfl
theorem q_508 : (Cond.code ({ cls := "java/lang/String", name := "checkIndex", desc := "(II)V" } : Jvm.MethodName) prog_22_method_155_code (2 : Nat) (Option.none : Option FieldType)) ∈ gtbl := gt3 (i := 28) rfl rfl
theorem q_509 : (Cond.fieldLink "java/lang/String" (1053 : Nat) "jdk/internal/util/Preconditions" "SIOOBE_FORMATTER" "Ljava/util/function/BiFunction;") ∈ gtbl := gt3 (i := 29) rfl rfl
theorem q_511 : (Cond.methodLink "java/lang/String" (1059 : Nat) ({ cls := "jdk/internal/util/Preconditions", name := "checkIndex", desc := "(IILjava/util/function/BiFunction;)I" } : Jvm.MethodName)) ∈ gtbl := gt3 (i := 31) rfl rfl
theorem q_512 : (Cond.static ({ cls := "jdk/internal/util/Preconditions", name := "checkIndex", desc := "(IILjava/util/function/BiFunction;)I" } : Jvm.MethodName)) ∈ gtbl := gt3 (i := 32) rfl rfl
theorem q_513 : (Cond.code ({ cls := "jdk/internal/util/Preconditions", name := "checkIndex", desc := "(IILjava/util/function/BiFunction;)I" } : Jvm.MethodName) prog_28_method_11_code (3 : Nat) (Option.some FieldType.int)) ∈ gtbl := gt3 (i := 33) rfl rfl
theorem q_514 : (Cond.methodLink "java/lang/String" (498 : Nat) ({ cls := "java/lang/StringUTF16", name := "charAt", desc := "([BI)C" } : Jvm.MethodName)) ∈ gtbl := gt3 (i := 34) rfl rfl
theorem q_515 : (Cond.static ({ cls := "java/lang/StringUTF16", name := "charAt", desc := "([BI)C" } : Jvm.MethodName)) ∈ gtbl := gt3 (i := 35) rfl rfl
theorem q_516 : (Cond.code ({ cls := "java/lang/StringUTF16", name := "charAt", desc := "([BI)C" } : Jvm.MethodName) prog_24_method_83_code (2 : Nat) (Option.some FieldType.char)) ∈ gtbl := gt3 (i := 36) rfl rfl
theorem q_517 : (Cond.methodLink "java/lang/StringUTF16" (67 : Nat) ({ cls := "java/lang/StringUTF16", name := "checkIndex", desc := "(I[B)V" } : Jvm.MethodName)) ∈ gtbl := gt3 (i := 37) rfl rfl
theorem q_518 : (Cond.static ({ cls := "java/lang/StringUTF16", name := "checkIndex", desc := "(I[B)V" } : Jvm.MethodName)) ∈ gtbl := gt3 (i := 38) rfl rfl
theorem q_519 : (Cond.code ({ cls := "java/lang/StringUTF16", name := "checkIndex", desc := "(I[B)V" } : Jvm.MethodName) prog_24_method_91_code (2 : Nat) (Option.none : Option FieldType)) ∈ gtbl := gt3 (i := 39) rfl rfl
theorem q_520 : (Cond.methodLink "java/lang/StringUTF16" (48 : Nat) ({ cls := "java/lang/StringUTF16", name := "length", desc := "([B)I" } : Jvm.MethodName)) ∈ gtbl := gt3 (i := 40) rfl rfl
theorem q_521 : (Cond.static ({ cls := "java/lang/StringUTF16", name := "length", desc := "([B)I" } : Jvm.MethodName)) ∈ gtbl := gt3 (i := 41) rfl rfl
theorem q_522 : (Cond.code ({ cls := "java/lang/StringUTF16", name := "length", desc := "([B)I" } : Jvm.MethodName) prog_24_method_6_code (1 : Nat) (Option.some FieldType.int)) ∈ gtbl := gt3 (i := 42) rfl rfl
theorem q_523 : (Cond.methodLink "java/lang/StringUTF16" (414 : Nat) ({ cls := "java/lang/String", name := "checkIndex", desc := "(II)V" } : Jvm.MethodName)) ∈ gtbl := gt3 (i := 43) rfl rfl
theorem q_524 : (Cond.methodLink "java/lang/StringUTF16" (71 : Nat) ({ cls := "java/lang/StringUTF16", name := "getChar", desc := "([BI)C" } : Jvm.MethodName)) ∈ gtbl := gt3 (i := 44) rfl rfl
theorem q_525 : (Cond.static ({ cls := "java/lang/StringUTF16", name := "getChar", desc := "([BI)C" } : Jvm.MethodName)) ∈ gtbl := gt3 (i := 45) rfl rfl
theorem q_526 : (Cond.code ({ cls := "java/lang/StringUTF16", name := "getChar", desc := "([BI)C" } : Jvm.MethodName) prog_24_method_5_code (2 : Nat) (Option.some FieldType.char)) ∈ gtbl := gt3 (i := 46) rfl rfl
theorem q_527 : (Cond.fieldLink "java/lang/StringUTF16" (44 : Nat) "java/lang/StringUTF16" "$assertionsDisabled" "Z") ∈ gtbl := gt3 (i := 47) rfl rfl
theorem q_529 : (Cond.fieldLink "java/lang/StringUTF16" (59 : Nat) "java/lang/StringUTF16" "HI_BYTE_SHIFT" "I") ∈ gtbl := gt3 (i := 49) rfl rfl
theorem q_531 : (Cond.fieldLink "java/lang/StringUTF16" (63 : Nat) "java/lang/StringUTF16" "LO_BYTE_SHIFT" "I") ∈ gtbl := gt3 (i := 51) rfl rfl
theorem q_533 : (Cond.methodLink "FlatPlan$Reader" (54 : Nat) ({ cls := "FlatPlan$Reader", name := "readPlan", desc := "()Z" } : Jvm.MethodName)) ∈ gtbl := gt3 (i := 53) rfl rfl
theorem q_535 : (Cond.instanceMethod ({ cls := "FlatPlan$Reader", name := "readPlan", desc := "()Z" } : Jvm.MethodName)) ∈ gtbl := gt3 (i := 55) rfl rfl
theorem q_536 : (Cond.code ({ cls := "FlatPlan$Reader", name := "readPlan", desc := "()Z" } : Jvm.MethodName) prog_7_method_3_code (1 : Nat) (Option.some FieldType.boolean)) ∈ gtbl := gt3 (i := 56) rfl rfl
theorem q_537 : (Cond.methodLink "FlatPlan$Reader" (64 : Nat) ({ cls := "FlatPlan$Reader", name := "readNumber", desc := "(III)Z" } : Jvm.MethodName)) ∈ gtbl := gt3 (i := 57) rfl rfl
theorem q_539 : (Cond.instanceMethod ({ cls := "FlatPlan$Reader", name := "readNumber", desc := "(III)Z" } : Jvm.MethodName)) ∈ gtbl := gt3 (i := 59) rfl rfl
theorem q_540 : (Cond.code ({ cls := "FlatPlan$Reader", name := "readNumber", desc := "(III)Z" } : Jvm.MethodName) prog_7_method_13_code (5 : Nat) (Option.some FieldType.boolean)) ∈ gtbl := gt3 (i := 60) rfl rfl
theorem q_541 : (Cond.methodLink "FlatPlan$Reader" (68 : Nat) ({ cls := "FlatPlan$Reader", name := "fail", desc := "(I)Z" } : Jvm.MethodName)) ∈ gtbl := gt3 (i := 61) rfl rfl
theorem q_543 : (Cond.instanceMethod ({ cls := "FlatPlan$Reader", name := "fail", desc := "(I)Z" } : Jvm.MethodName)) ∈ gtbl := gt3 (i := 63) rfl rfl
theorem q_544 : (Cond.code ({ cls := "FlatPlan$Reader", name := "fail", desc := "(I)Z" } : Jvm.MethodName) prog_7_method_15_code (2 : Nat) (Option.some FieldType.boolean)) ∈ gtbl := gt3 (i := 64) rfl rfl
theorem q_545 : (Cond.methodLink "FlatPlan$Reader" (188 : Nat) ({ cls := "FlatPlan$Reader", name := "numberRead", desc := "()I" } : Jvm.MethodName)) ∈ gtbl := gt3 (i := 65) rfl rfl
theorem q_547 : (Cond.instanceMethod ({ cls := "FlatPlan$Reader", name := "numberRead", desc := "()I" } : Jvm.MethodName)) ∈ gtbl := gt3 (i := 67) rfl rfl
theorem q_548 : (Cond.code ({ cls := "FlatPlan$Reader", name := "numberRead", desc := "()I" } : Jvm.MethodName) prog_7_method_20_code (3 : Nat) (Option.some FieldType.int)) ∈ gtbl := gt3 (i := 68) rfl rfl
theorem q_549 : (Cond.methodLink "FlatPlan$Reader" (72 : Nat) ({ cls := "FlatPlan$Reader", name := "readSemicolon", desc := "()Z" } : Jvm.MethodName)) ∈ gtbl := gt3 (i := 69) rfl rfl
theorem q_551 : (Cond.instanceMethod ({ cls := "FlatPlan$Reader", name := "readSemicolon", desc := "()Z" } : Jvm.MethodName)) ∈ gtbl := gt3 (i := 71) rfl rfl
theorem q_552 : (Cond.code ({ cls := "FlatPlan$Reader", name := "readSemicolon", desc := "()Z" } : Jvm.MethodName) prog_7_method_14_code (1 : Nat) (Option.some FieldType.boolean)) ∈ gtbl := gt3 (i := 72) rfl rfl
theorem q_553 : (Cond.methodLink "FlatPlan$Reader" (61 : Nat) ({ cls := "FlatPlan$Reader", name := "readStatement", desc := "()Z" } : Jvm.MethodName)) ∈ gtbl := gt3 (i := 73) rfl rfl
theorem q_555 : (Cond.instanceMethod ({ cls := "FlatPlan$Reader", name := "readStatement", desc := "()Z" } : Jvm.MethodName)) ∈ gtbl := gt3 (i := 75) rfl rfl
theorem q_556 : (Cond.code ({ cls := "FlatPlan$Reader", name := "readStatement", desc := "()Z" } : Jvm.MethodName) prog_7_method_4_code (1 : Nat) (Option.some FieldType.boolean)) ∈ gtbl := gt3 (i := 76) rfl rfl
theorem q_558 : (Cond.methodLink "FlatPlan$Reader" (77 : Nat) ({ cls := "FlatPlan$Reader", name := "readColor", desc := "()Z" } : Jvm.MethodName)) ∈ gtbl := gt3 (i := 78) rfl rfl
theorem q_560 : (Cond.instanceMethod ({ cls := "FlatPlan$Reader", name := "readColor", desc := "()Z" } : Jvm.MethodName)) ∈ gtbl := gt3 (i := 80) rfl rfl
theorem q_561 : (Cond.code ({ cls := "FlatPlan$Reader", name := "readColor", desc := "()Z" } : Jvm.MethodName) prog_7_method_5_code (1 : Nat) (Option.some FieldType.boolean)) ∈ gtbl := gt3 (i := 81) rfl rfl
theorem q_563 : (Cond.methodLink "FlatPlan$Reader" (82 : Nat) ({ cls := "FlatPlan$Reader", name := "readAd", desc := "()Z" } : Jvm.MethodName)) ∈ gtbl := gt3 (i := 83) rfl rfl
theorem q_565 : (Cond.instanceMethod ({ cls := "FlatPlan$Reader", name := "readAd", desc := "()Z" } : Jvm.MethodName)) ∈ gtbl := gt3 (i := 85) rfl rfl
theorem q_566 : (Cond.code ({ cls := "FlatPlan$Reader", name := "readAd", desc := "()Z" } : Jvm.MethodName) prog_7_method_6_code (3 : Nat) (Option.some FieldType.boolean)) ∈ gtbl := gt3 (i := 86) rfl rfl
theorem q_567 : (Cond.methodLink "FlatPlan$Reader" (135 : Nat) ({ cls := "FlatPlan$Reader", name := "firstIsSize", desc := "()Z" } : Jvm.MethodName)) ∈ gtbl := gt3 (i := 87) rfl rfl
theorem q_569 : (Cond.instanceMethod ({ cls := "FlatPlan$Reader", name := "firstIsSize", desc := "()Z" } : Jvm.MethodName)) ∈ gtbl := gt3 (i := 89) rfl rfl
theorem q_570 : (Cond.code ({ cls := "FlatPlan$Reader", name := "firstIsSize", desc := "()Z" } : Jvm.MethodName) prog_7_method_12_code (1 : Nat) (Option.some FieldType.boolean)) ∈ gtbl := gt3 (i := 90) rfl rfl
theorem q_572 : (Cond.static ({ cls := "FlatPlan", name := "isSize", desc := "(I)Z" } : Jvm.MethodName)) ∈ gtbl := gt3 (i := 92) rfl rfl
theorem q_573 : (Cond.code ({ cls := "FlatPlan", name := "isSize", desc := "(I)Z" } : Jvm.MethodName) prog_1_method_69_code (1 : Nat) (Option.some FieldType.boolean)) ∈ gtbl := gt3 (i := 93) rfl rfl
theorem q_574 : (Cond.methodLink "FlatPlan$Reader" (138 : Nat) ({ cls := "FlatPlan$Ads", name := "add", desc := "(IIII)I" } : Jvm.MethodName)) ∈ gtbl := gt3 (i := 94) rfl rfl
theorem q_575 : (Cond.instanceMethod ({ cls := "FlatPlan$Ads", name := "add", desc := "(IIII)I" } : Jvm.MethodName)) ∈ gtbl := gt3 (i := 95) rfl rfl
theorem q_576 : (Cond.selects "FlatPlan$Ads" ({ cls := "FlatPlan$Ads", name := "add", desc := "(IIII)I" } : Jvm.MethodName) ({ cls := "FlatPlan$Ads", name := "add", desc := "(IIII)I" } : Jvm.MethodName)) ∈ gtbl := gt3 (i := 96) rfl rfl
theorem q_577 : (Cond.code ({ cls := "FlatPlan$Ads", name := "add", desc := "(IIII)I" } : Jvm.MethodName) prog_2_method_2_code (6 : Nat) (Option.some FieldType.int)) ∈ gtbl := gt3 (i := 97) rfl rfl
theorem q_579 : (Cond.methodLink "FlatPlan$Reader" (87 : Nat) ({ cls := "FlatPlan$Reader", name := "readStory", desc := "()Z" } : Jvm.MethodName)) ∈ gtbl := gt3 (i := 99) rfl rfl
theorem q_581 : (Cond.instanceMethod ({ cls := "FlatPlan$Reader", name := "readStory", desc := "()Z" } : Jvm.MethodName)) ∈ gtbl := gt3 (i := 101) rfl rfl
theorem q_582 : (Cond.code ({ cls := "FlatPlan$Reader", name := "readStory", desc := "()Z" } : Jvm.MethodName) prog_7_method_7_code (1 : Nat) (Option.some FieldType.boolean)) ∈ gtbl := gt3 (i := 102) rfl rfl
theorem q_583 : (Cond.methodLink "FlatPlan$Reader" (153 : Nat) ({ cls := "FlatPlan$Stories", name := "add", desc := "(IIII)V" } : Jvm.MethodName)) ∈ gtbl := gt3 (i := 103) rfl rfl
theorem q_584 : (Cond.instanceMethod ({ cls := "FlatPlan$Stories", name := "add", desc := "(IIII)V" } : Jvm.MethodName)) ∈ gtbl := gt3 (i := 104) rfl rfl
theorem q_585 : (Cond.selects "FlatPlan$Stories" ({ cls := "FlatPlan$Stories", name := "add", desc := "(IIII)V" } : Jvm.MethodName) ({ cls := "FlatPlan$Stories", name := "add", desc := "(IIII)V" } : Jvm.MethodName)) ∈ gtbl := gt3 (i := 105) rfl rfl
theorem q_586 : (Cond.code ({ cls := "FlatPlan$Stories", name := "add", desc := "(IIII)V" } : Jvm.MethodName) prog_11_method_2_code (5 : Nat) (Option.none : Option FieldType)) ∈ gtbl := gt3 (i := 106) rfl rfl
theorem q_588 : (Cond.methodLink "FlatPlan$Reader" (92 : Nat) ({ cls := "FlatPlan$Reader", name := "readStandby", desc := "()Z" } : Jvm.MethodName)) ∈ gtbl := gt3 (i := 108) rfl rfl
theorem q_590 : (Cond.instanceMethod ({ cls := "FlatPlan$Reader", name := "readStandby", desc := "()Z" } : Jvm.MethodName)) ∈ gtbl := gt3 (i := 110) rfl rfl
theorem q_591 : (Cond.code ({ cls := "FlatPlan$Reader", name := "readStandby", desc := "()Z" } : Jvm.MethodName) prog_7_method_8_code (1 : Nat) (Option.some FieldType.boolean)) ∈ gtbl := gt3 (i := 111) rfl rfl
theorem q_592 : (Cond.methodLink "FlatPlan$Reader" (163 : Nat) ({ cls := "FlatPlan$Standbys", name := "add", desc := "(I)V" } : Jvm.MethodName)) ∈ gtbl := gt3 (i := 112) rfl rfl
theorem q_593 : (Cond.instanceMethod ({ cls := "FlatPlan$Standbys", name := "add", desc := "(I)V" } : Jvm.MethodName)) ∈ gtbl := gt3 (i := 113) rfl rfl
theorem q_594 : (Cond.selects "FlatPlan$Standbys" ({ cls := "FlatPlan$Standbys", name := "add", desc := "(I)V" } : Jvm.MethodName) ({ cls := "FlatPlan$Standbys", name := "add", desc := "(I)V" } : Jvm.MethodName)) ∈ gtbl := gt3 (i := 114) rfl rfl
theorem q_595 : (Cond.code ({ cls := "FlatPlan$Standbys", name := "add", desc := "(I)V" } : Jvm.MethodName) prog_9_method_2_code (2 : Nat) (Option.none : Option FieldType)) ∈ gtbl := gt3 (i := 115) rfl rfl
theorem q_597 : (Cond.methodLink "FlatPlan$Reader" (97 : Nat) ({ cls := "FlatPlan$Reader", name := "readClose", desc := "()Z" } : Jvm.MethodName)) ∈ gtbl := gt3 (i := 117) rfl rfl
theorem q_599 : (Cond.instanceMethod ({ cls := "FlatPlan$Reader", name := "readClose", desc := "()Z" } : Jvm.MethodName)) ∈ gtbl := gt3 (i := 119) rfl rfl
theorem q_600 : (Cond.code ({ cls := "FlatPlan$Reader", name := "readClose", desc := "()Z" } : Jvm.MethodName) prog_7_method_9_code (1 : Nat) (Option.some FieldType.boolean)) ∈ gtbl := gt3 (i := 120) rfl rfl
theorem q_602 : (Cond.methodLink "FlatPlan$Reader" (102 : Nat) ({ cls := "FlatPlan$Reader", name := "readPut", desc := "()Z" } : Jvm.MethodName)) ∈ gtbl := gt3 (i := 122) rfl rfl
theorem q_604 : (Cond.instanceMethod ({ cls := "FlatPlan$Reader", name := "readPut", desc := "()Z" } : Jvm.MethodName)) ∈ gtbl := gt3 (i := 124) rfl rfl
theorem q_605 : (Cond.code ({ cls := "FlatPlan$Reader", name := "readPut", desc := "()Z" } : Jvm.MethodName) prog_7_method_10_code (2 : Nat) (Option.some FieldType.boolean)) ∈ gtbl := gt3 (i := 125) rfl rfl
theorem q_606 : (Cond.methodLink "FlatPlan$Reader" (174 : Nat) ({ cls := "FlatPlan$Plan", name := "adReason", desc := "(II)I" } : Jvm.MethodName)) ∈ gtbl := gt3 (i := 126) rfl rfl
theorem q_607 : (Cond.instanceMethod ({ cls := "FlatPlan$Plan", name := "adReason", desc := "(II)I" } : Jvm.MethodName)) ∈ gtbl := gt3 (i := 127) rfl rfl
theorem q_608 : (Cond.selects "FlatPlan$Plan" ({ cls := "FlatPlan$Plan", name := "adReason", desc := "(II)I" } : Jvm.MethodName) ({ cls := "FlatPlan$Plan", name := "adReason", desc := "(II)I" } : Jvm.MethodName)) ∈ gtbl := gt3 (i := 128) rfl rfl
theorem q_609 : (Cond.code ({ cls := "FlatPlan$Plan", name := "adReason", desc := "(II)I" } : Jvm.MethodName) prog_6_method_13_code (3 : Nat) (Option.some FieldType.int)) ∈ gtbl := gt3 (i := 129) rfl rfl
theorem q_610 : (Cond.methodLink "FlatPlan$Plan" (135 : Nat) ({ cls := "FlatPlan$Plan", name := "isPrinted", desc := "(I)Z" } : Jvm.MethodName)) ∈ gtbl := gt3 (i := 130) rfl rfl
theorem q_611 : (Cond.instanceMethod ({ cls := "FlatPlan$Plan", name := "isPrinted", desc := "(I)Z" } : Jvm.MethodName)) ∈ gtbl := gt3 (i := 131) rfl rfl
theorem q_612 : (Cond.selects "FlatPlan$Plan" ({ cls := "FlatPlan$Plan", name := "isPrinted", desc := "(I)Z" } : Jvm.MethodName) ({ cls := "FlatPlan$Plan", name := "isPrinted", desc := "(I)Z" } : Jvm.MethodName)) ∈ gtbl := gt3 (i := 132) rfl rfl
theorem q_613 : (Cond.code ({ cls := "FlatPlan$Plan", name := "isPrinted", desc := "(I)Z" } : Jvm.MethodName) prog_6_method_8_code (2 : Nat) (Option.some FieldType.boolean)) ∈ gtbl := gt3 (i := 133) rfl rfl
theorem q_614 : (Cond.methodLink "FlatPlan$Plan" (149 : Nat) ({ cls := "FlatPlan$Plan", name := "roomFor", desc := "(II)I" } : Jvm.MethodName)) ∈ gtbl := gt3 (i := 134) rfl rfl
theorem q_615 : (Cond.instanceMethod ({ cls := "FlatPlan$Plan", name := "roomFor", desc := "(II)I" } : Jvm.MethodName)) ∈ gtbl := gt3 (i := 135) rfl rfl
theorem q_616 : (Cond.selects "FlatPlan$Plan" ({ cls := "FlatPlan$Plan", name := "roomFor", desc := "(II)I" } : Jvm.MethodName) ({ cls := "FlatPlan$Plan", name := "roomFor", desc := "(II)I" } : Jvm.MethodName)) ∈ gtbl := gt3 (i := 136) rfl rfl
theorem q_617 : (Cond.code ({ cls := "FlatPlan$Plan", name := "roomFor", desc := "(II)I" } : Jvm.MethodName) prog_6_method_14_code (3 : Nat) (Option.some FieldType.int)) ∈ gtbl := gt3 (i := 137) rfl rfl
theorem q_618 : (Cond.methodLink "FlatPlan$Plan" (139 : Nat) ({ cls := "FlatPlan$Plan", name := "lacksColor", desc := "(II)Z" } : Jvm.MethodName)) ∈ gtbl := gt3 (i := 138) rfl rfl
theorem q_620 : (Cond.instanceMethod ({ cls := "FlatPlan$Plan", name := "lacksColor", desc := "(II)Z" } : Jvm.MethodName)) ∈ gtbl := gt3 (i := 140) rfl rfl
theorem q_621 : (Cond.code ({ cls := "FlatPlan$Plan", name := "lacksColor", desc := "(II)Z" } : Jvm.MethodName) prog_6_method_12_code (3 : Nat) (Option.some FieldType.boolean)) ∈ gtbl := gt3 (i := 141) rfl rfl
theorem q_622 : (Cond.methodLink "FlatPlan$Plan" (146 : Nat) ({ cls := "FlatPlan$Plan", name := "isWrongSide", desc := "(II)Z" } : Jvm.MethodName)) ∈ gtbl := gt3 (i := 142) rfl rfl
theorem q_623 : (Cond.static ({ cls := "FlatPlan$Plan", name := "isWrongSide", desc := "(II)Z" } : Jvm.MethodName)) ∈ gtbl := gt3 (i := 143) rfl rfl
theorem q_624 : (Cond.code ({ cls := "FlatPlan$Plan", name := "isWrongSide", desc := "(II)Z" } : Jvm.MethodName) prog_6_method_10_code (2 : Nat) (Option.some FieldType.boolean)) ∈ gtbl := gt3 (i := 144) rfl rfl
theorem q_625 : (Cond.methodLink "FlatPlan$Plan" (152 : Nat) ({ cls := "FlatPlan$Plan", name := "meetsRival", desc := "(II)Z" } : Jvm.MethodName)) ∈ gtbl := gt3 (i := 145) rfl rfl
theorem q_627 : (Cond.instanceMethod ({ cls := "FlatPlan$Plan", name := "meetsRival", desc := "(II)Z" } : Jvm.MethodName)) ∈ gtbl := gt3 (i := 147) rfl rfl
theorem q_628 : (Cond.code ({ cls := "FlatPlan$Plan", name := "meetsRival", desc := "(II)Z" } : Jvm.MethodName) prog_6_method_15_code (6 : Nat) (Option.some FieldType.boolean)) ∈ gtbl := gt3 (i := 148) rfl rfl
theorem q_629 : (Cond.methodLink "FlatPlan$Reader" (178 : Nat) ({ cls := "FlatPlan$Plan", name := "recount", desc := "()V" } : Jvm.MethodName)) ∈ gtbl := gt3 (i := 149) rfl rfl
theorem q_631 : (Cond.methodLink "FlatPlan$Reader" (107 : Nat) ({ cls := "FlatPlan$Reader", name := "readLay", desc := "()Z" } : Jvm.MethodName)) ∈ gtbl := gt3 (i := 151) rfl rfl
theorem q_633 : (Cond.instanceMethod ({ cls := "FlatPlan$Reader", name := "readLay", desc := "()Z" } : Jvm.MethodName)) ∈ gtbl := gt3 (i := 153) rfl rfl
theorem q_634 : (Cond.code ({ cls := "FlatPlan$Reader", name := "readLay", desc := "()Z" } : Jvm.MethodName) prog_7_method_11_code (2 : Nat) (Option.some FieldType.boolean)) ∈ gtbl := gt3 (i := 154) rfl rfl
theorem q_635 : (Cond.methodLink "FlatPlan$Reader" (182 : Nat) ({ cls := "FlatPlan$Plan", name := "layReason", desc := "(II)I" } : Jvm.MethodName)) ∈ gtbl := gt3 (i := 155) rfl rfl
theorem q_636 : (Cond.instanceMethod ({ cls := "FlatPlan$Plan", name := "layReason", desc := "(II)I" } : Jvm.MethodName)) ∈ gtbl := gt3 (i := 156) rfl rfl
theorem q_637 : (Cond.selects "FlatPlan$Plan" ({ cls := "FlatPlan$Plan", name := "layReason", desc := "(II)I" } : Jvm.MethodName) ({ cls := "FlatPlan$Plan", name := "layReason", desc := "(II)I" } : Jvm.MethodName)) ∈ gtbl := gt3 (i := 157) rfl rfl
theorem q_638 : (Cond.code ({ cls := "FlatPlan$Plan", name := "layReason", desc := "(II)I" } : Jvm.MethodName) prog_6_method_16_code (6 : Nat) (Option.some FieldType.int)) ∈ gtbl := gt3 (i := 158) rfl rfl
theorem q_639 : (Cond.methodLink "FlatPlan$Plan" (156 : Nat) ({ cls := "FlatPlan$Plan", name := "pageReason", desc := "(II)I" } : Jvm.MethodName)) ∈ gtbl := gt3 (i := 159) rfl rfl
theorem q_641 : (Cond.instanceMethod ({ cls := "FlatPlan$Plan", name := "pageReason", desc := "(II)I" } : Jvm.MethodName)) ∈ gtbl := gt3 (i := 161) rfl rfl
theorem q_642 : (Cond.code ({ cls := "FlatPlan$Plan", name := "pageReason", desc := "(II)I" } : Jvm.MethodName) prog_6_method_17_code (3 : Nat) (Option.some FieldType.int)) ∈ gtbl := gt3 (i := 162) rfl rfl
theorem q_643 : (Cond.methodLink "FlatPlan$Plan" (159 : Nat) ({ cls := "FlatPlan$Plan", name := "lowerReason", desc := "(II)I" } : Jvm.MethodName)) ∈ gtbl := gt3 (i := 163) rfl rfl
theorem q_644 : (Cond.static ({ cls := "FlatPlan$Plan", name := "lowerReason", desc := "(II)I" } : Jvm.MethodName)) ∈ gtbl := gt3 (i := 164) rfl rfl
theorem q_645 : (Cond.code ({ cls := "FlatPlan$Plan", name := "lowerReason", desc := "(II)I" } : Jvm.MethodName) prog_6_method_18_code (2 : Nat) (Option.some FieldType.int)) ∈ gtbl := gt3 (i := 165) rfl rfl
theorem q_646 : (Cond.methodLink "FlatPlan" (70 : Nat) ({ cls := "FlatPlan$Plan", name := "become", desc := "(LFlatPlan$State;)V" } : Jvm.MethodName)) ∈ gtbl := gt3 (i := 166) rfl rfl
theorem q_647 : (Cond.instanceMethod ({ cls := "FlatPlan$Plan", name := "become", desc := "(LFlatPlan$State;)V" } : Jvm.MethodName)) ∈ gtbl := gt3 (i := 167) rfl rfl
theorem q_648 : (Cond.selects "FlatPlan$Plan" ({ cls := "FlatPlan$Plan", name := "become", desc := "(LFlatPlan$State;)V" } : Jvm.MethodName) ({ cls := "FlatPlan$Plan", name := "become", desc := "(LFlatPlan$State;)V" } : Jvm.MethodName)) ∈ gtbl := gt3 (i := 168) rfl rfl
theorem q_649 : (Cond.code ({ cls := "FlatPlan$Plan", name := "become", desc := "(LFlatPlan$State;)V" } : Jvm.MethodName) prog_6_method_3_code (2 : Nat) (Option.none : Option FieldType)) ∈ gtbl := gt3 (i := 169) rfl rfl
theorem q_650 : (Cond.methodLink "FlatPlan$Plan" (101 : Nat) ({ cls := "FlatPlan$State", name := "copyFrom", desc := "(LFlatPlan$State;)V" } : Jvm.MethodName)) ∈ gtbl := gt3 (i := 170) rfl rfl
theorem q_651 : (Cond.instanceMethod ({ cls := "FlatPlan$State", name := "copyFrom", desc := "(LFlatPlan$State;)V" } : Jvm.MethodName)) ∈ gtbl := gt3 (i := 171) rfl rfl
theorem q_652 : (Cond.selects "FlatPlan$State" ({ cls := "FlatPlan$State", name := "copyFrom", desc := "(LFlatPlan$State;)V" } : Jvm.MethodName) ({ cls := "FlatPlan$State", name := "copyFrom", desc := "(LFlatPlan$State;)V" } : Jvm.MethodName)) ∈ gtbl := gt3 (i := 172) rfl rfl
theorem q_653 : (Cond.code ({ cls := "FlatPlan$State", name := "copyFrom", desc := "(LFlatPlan$State;)V" } : Jvm.MethodName) prog_10_method_2_code (2 : Nat) (Option.none : Option FieldType)) ∈ gtbl := gt3 (i := 173) rfl rfl
theorem q_654 : (Cond.methodLink "FlatPlan$State" (37 : Nat) ({ cls := "FlatPlan$Ads", name := "copyFrom", desc := "(LFlatPlan$Ads;)V" } : Jvm.MethodName)) ∈ gtbl := gt3 (i := 174) rfl rfl
theorem q_655 : (Cond.instanceMethod ({ cls := "FlatPlan$Ads", name := "copyFrom", desc := "(LFlatPlan$Ads;)V" } : Jvm.MethodName)) ∈ gtbl := gt3 (i := 175) rfl rfl
theorem q_656 : (Cond.selects "FlatPlan$Ads" ({ cls := "FlatPlan$Ads", name := "copyFrom", desc := "(LFlatPlan$Ads;)V" } : Jvm.MethodName) ({ cls := "FlatPlan$Ads", name := "copyFrom", desc := "(LFlatPlan$Ads;)V" } : Jvm.MethodName)) ∈ gtbl := gt3 (i := 176) rfl rfl
theorem q_657 : (Cond.code ({ cls := "FlatPlan$Ads", name := "copyFrom", desc := "(LFlatPlan$Ads;)V" } : Jvm.MethodName) prog_2_method_4_code (2 : Nat) (Option.none : Option FieldType)) ∈ gtbl := gt3 (i := 177) rfl rfl
theorem q_658 : (Cond.methodLink "FlatPlan$Ads" (37 : Nat) ({ cls := "java/lang/System", name := "arraycopy", desc := "(Ljava/lang/Object;ILjava/lang/Object;II)V" } : Jvm.MethodName)) ∈ gtbl := gt3 (i := 178) rfl rfl
theorem q_659 : (Cond.static ({ cls := "java/lang/System", name := "arraycopy", desc := "(Ljava/lang/Object;ILjava/lang/Object;II)V" } : Jvm.MethodName)) ∈ gtbl := gt3 (i := 179) rfl rfl
theorem q_660 : (Cond.native ({ cls := "java/lang/System", name := "arraycopy", desc := "(Ljava/lang/Object;ILjava/lang/Object;II)V" } : Jvm.MethodName)) ∈ gtbl := gt3 (i := 180) rfl rfl
theorem q_661 : (Cond.methodLink "FlatPlan$State" (41 : Nat) ({ cls := "FlatPlan$Stories", name := "copyFrom", desc := "(LFlatPlan$Stories;)V" } : Jvm.MethodName)) ∈ gtbl := gt3 (i := 181) rfl rfl
theorem q_662 : (Cond.instanceMethod ({ cls := "FlatPlan$Stories", name := "copyFrom", desc := "(LFlatPlan$Stories;)V" } : Jvm.MethodName)) ∈ gtbl := gt3 (i := 182) rfl rfl
theorem q_663 : (Cond.selects "FlatPlan$Stories" ({ cls := "FlatPlan$Stories", name := "copyFrom", desc := "(LFlatPlan$Stories;)V" } : Jvm.MethodName) ({ cls := "FlatPlan$Stories", name := "copyFrom", desc := "(LFlatPlan$Stories;)V" } : Jvm.MethodName)) ∈ gtbl := gt3 (i := 183) rfl rfl
theorem q_664 : (Cond.code ({ cls := "FlatPlan$Stories", name := "copyFrom", desc := "(LFlatPlan$Stories;)V" } : Jvm.MethodName) prog_11_method_3_code (2 : Nat) (Option.none : Option FieldType)) ∈ gtbl := gt3 (i := 184) rfl rfl
theorem q_665 : (Cond.methodLink "FlatPlan$Stories" (31 : Nat) ({ cls := "java/lang/System", name := "arraycopy", desc := "(Ljava/lang/Object;ILjava/lang/Object;II)V" } : Jvm.MethodName)) ∈ gtbl := gt3 (i := 185) rfl rfl
theorem q_666 : (Cond.methodLink "FlatPlan$State" (44 : Nat) ({ cls := "FlatPlan$Standbys", name := "copyFrom", desc := "(LFlatPlan$Standbys;)V" } : Jvm.MethodName)) ∈ gtbl := gt3 (i := 186) rfl rfl
theorem q_667 : (Cond.instanceMethod ({ cls := "FlatPlan$Standbys", name := "copyFrom", desc := "(LFlatPlan$Standbys;)V" } : Jvm.MethodName)) ∈ gtbl := gt3 (i := 187) rfl rfl
theorem q_668 : (Cond.selects "FlatPlan$Standbys" ({ cls := "FlatPlan$Standbys", name := "copyFrom", desc := "(LFlatPlan$Standbys;)V" } : Jvm.MethodName) ({ cls := "FlatPlan$Standbys", name := "copyFrom", desc := "(LFlatPlan$Standbys;)V" } : Jvm.MethodName)) ∈ gtbl := gt3 (i := 188) rfl rfl
theorem q_669 : (Cond.code ({ cls := "FlatPlan$Standbys", name := "copyFrom", desc := "(LFlatPlan$Standbys;)V" } : Jvm.MethodName) prog_9_method_4_code (2 : Nat) (Option.none : Option FieldType)) ∈ gtbl := gt3 (i := 189) rfl rfl
theorem q_670 : (Cond.methodLink "FlatPlan$Standbys" (22 : Nat) ({ cls := "java/lang/System", name := "arraycopy", desc := "(Ljava/lang/Object;ILjava/lang/Object;II)V" } : Jvm.MethodName)) ∈ gtbl := gt3 (i := 190) rfl rfl
theorem q_671 : (Cond.methodLink "FlatPlan$State" (47 : Nat) ({ cls := "FlatPlan$Forms", name := "copyFrom", desc := "(LFlatPlan$Forms;)V" } : Jvm.MethodName)) ∈ gtbl := gt3 (i := 191) rfl rfl
theorem q_672 : (Cond.instanceMethod ({ cls := "FlatPlan$Forms", name := "copyFrom", desc := "(LFlatPlan$Forms;)V" } : Jvm.MethodName)) ∈ gtbl := gt3 (i := 192) rfl rfl
theorem q_673 : (Cond.selects "FlatPlan$Forms" ({ cls := "FlatPlan$Forms", name := "copyFrom", desc := "(LFlatPlan$Forms;)V" } : Jvm.MethodName) ({ cls := "FlatPlan$Forms", name := "copyFrom", desc := "(LFlatPlan$Forms;)V" } : Jvm.MethodName)) ∈ gtbl := gt3 (i := 193) rfl rfl
theorem q_674 : (Cond.code ({ cls := "FlatPlan$Forms", name := "copyFrom", desc := "(LFlatPlan$Forms;)V" } : Jvm.MethodName) prog_4_method_2_code (2 : Nat) (Option.none : Option FieldType)) ∈ gtbl := gt3 (i := 194) rfl rfl
theorem q_675 : (Cond.methodLink "FlatPlan$Forms" (21 : Nat) ({ cls := "java/lang/System", name := "arraycopy", desc := "(Ljava/lang/Object;ILjava/lang/Object;II)V" } : Jvm.MethodName)) ∈ gtbl := gt3 (i := 195) rfl rfl
theorem q_676 : (Cond.methodLink "FlatPlan" (74 : Nat) ({ cls := "FlatPlan$History", name := "forget", desc := "()V" } : Jvm.MethodName)) ∈ gtbl := gt3 (i := 196) rfl rfl
theorem q_677 : (Cond.instanceMethod ({ cls := "FlatPlan$History", name := "forget", desc := "()V" } : Jvm.MethodName)) ∈ gtbl := gt3 (i := 197) rfl rfl
theorem q_678 : (Cond.selects "FlatPlan$History" ({ cls := "FlatPlan$History", name := "forget", desc := "()V" } : Jvm.MethodName) ({ cls := "FlatPlan$History", name := "forget", desc := "()V" } : Jvm.MethodName)) ∈ gtbl := gt3 (i := 198) rfl rfl
theorem q_679 : (Cond.code ({ cls := "FlatPlan$History", name := "forget", desc := "()V" } : Jvm.MethodName) prog_5_method_4_code (1 : Nat) (Option.none : Option FieldType)) ∈ gtbl := gt3 (i := 199) rfl rfl
theorem q_680 : (Cond.arrayClass FieldType.byte) ∈ gtbl := gt3 (i := 200) rfl rfl
theorem q_681 : (Cond.methodLink "FlatPlanLaw" (145 : Nat) ({ cls := "FlatPlan", name := "errorCode", desc := "()I" } : Jvm.MethodName)) ∈ gtbl := gt3 (i := 201) rfl rfl
theorem q_682 : (Cond.instanceMethod ({ cls := "FlatPlan", name := "errorCode", desc := "()I" } : Jvm.MethodName)) ∈ gtbl := gt3 (i := 202) rfl rfl
theorem q_683 : (Cond.selects "FlatPlan" ({ cls := "FlatPlan", name := "errorCode", desc := "()I" } : Jvm.MethodName) ({ cls := "FlatPlan", name := "errorCode", desc := "()I" } : Jvm.MethodName)) ∈ gtbl := gt3 (i := 203) rfl rfl
theorem q_684 : (Cond.code ({ cls := "FlatPlan", name := "errorCode", desc := "()I" } : Jvm.MethodName) prog_1_method_5_code (1 : Nat) (Option.some FieldType.int)) ∈ gtbl := gt3 (i := 204) rfl rfl
theorem q_685 : (Cond.methodLink "FlatPlanLaw" (149 : Nat) ({ cls := "FlatPlan", name := "errorPosition", desc := "()I" } : Jvm.MethodName)) ∈ gtbl := gt3 (i := 205) rfl rfl
theorem q_686 : (Cond.instanceMethod ({ cls := "FlatPlan", name := "errorPosition", desc := "()I" } : Jvm.MethodName)) ∈ gtbl := gt3 (i := 206) rfl rfl
theorem q_687 : (Cond.selects "FlatPlan" ({ cls := "FlatPlan", name := "errorPosition", desc := "()I" } : Jvm.MethodName) ({ cls := "FlatPlan", name := "errorPosition", desc := "()I" } : Jvm.MethodName)) ∈ gtbl := gt3 (i := 207) rfl rfl
theorem q_688 : (Cond.code ({ cls := "FlatPlan", name := "errorPosition", desc := "()I" } : Jvm.MethodName) prog_1_method_6_code (1 : Nat) (Option.some FieldType.int)) ∈ gtbl := gt3 (i := 208) rfl rfl
theorem q_689 : (Cond.methodLink "FlatPlanLaw" (153 : Nat) ({ cls := "FlatPlan", name := "count", desc := "(I)I" } : Jvm.MethodName)) ∈ gtbl := gt3 (i := 209) rfl rfl
theorem q_690 : (Cond.instanceMethod ({ cls := "FlatPlan", name := "count", desc := "(I)I" } : Jvm.MethodName)) ∈ gtbl := gt3 (i := 210) rfl rfl
theorem q_691 : (Cond.selects "FlatPlan" ({ cls := "FlatPlan", name := "count", desc := "(I)I" } : Jvm.MethodName) ({ cls := "FlatPlan", name := "count", desc := "(I)I" } : Jvm.MethodName)) ∈ gtbl := gt3 (i := 211) rfl rfl
theorem q_692 : (Cond.code ({ cls := "FlatPlan", name := "count", desc := "(I)I" } : Jvm.MethodName) prog_1_method_7_code (3 : Nat) (Option.some FieldType.int)) ∈ gtbl := gt3 (i := 212) rfl rfl
theorem q_693 : (Cond.methodLink "FlatPlan" (124 : Nat) ({ cls := "FlatPlan", name := "placed", desc := "([II)I" } : Jvm.MethodName)) ∈ gtbl := gt3 (i := 213) rfl rfl
theorem q_694 : (Cond.static ({ cls := "FlatPlan", name := "placed", desc := "([II)I" } : Jvm.MethodName)) ∈ gtbl := gt3 (i := 214) rfl rfl
theorem q_695 : (Cond.code ({ cls := "FlatPlan", name := "placed", desc := "([II)I" } : Jvm.MethodName) prog_1_method_8_code (4 : Nat) (Option.some FieldType.int)) ∈ gtbl := gt3 (i := 215) rfl rfl
theorem q_696 : (Cond.methodLink "FlatPlanLaw" (236 : Nat) ({ cls := "FlatPlan", name := "nextClosing", desc := "()I" } : Jvm.MethodName)) ∈ gtbl := gt3 (i := 216) rfl rfl
theorem q_697 : (Cond.instanceMethod ({ cls := "FlatPlan", name := "nextClosing", desc := "()I" } : Jvm.MethodName)) ∈ gtbl := gt3 (i := 217) rfl rfl
theorem q_698 : (Cond.selects "FlatPlan" ({ cls := "FlatPlan", name := "nextClosing", desc := "()I" } : Jvm.MethodName) ({ cls := "FlatPlan", name := "nextClosing", desc := "()I" } : Jvm.MethodName)) ∈ gtbl := gt3 (i := 218) rfl rfl
theorem q_699 : (Cond.code ({ cls := "FlatPlan", name := "nextClosing", desc := "()I" } : Jvm.MethodName) prog_1_method_33_code (1 : Nat) (Option.some FieldType.int)) ∈ gtbl := gt3 (i := 219) rfl rfl
theorem q_700 : (Cond.methodLink "FlatPlan" (277 : Nat) ({ cls := "FlatPlan$Plan", name := "soonestForm", desc := "()I" } : Jvm.MethodName)) ∈ gtbl := gt3 (i := 220) rfl rfl
theorem q_701 : (Cond.instanceMethod ({ cls := "FlatPlan$Plan", name := "soonestForm", desc := "()I" } : Jvm.MethodName)) ∈ gtbl := gt3 (i := 221) rfl rfl
theorem q_702 : (Cond.selects "FlatPlan$Plan" ({ cls := "FlatPlan$Plan", name := "soonestForm", desc := "()I" } : Jvm.MethodName) ({ cls := "FlatPlan$Plan", name := "soonestForm", desc := "()I" } : Jvm.MethodName)) ∈ gtbl := gt3 (i := 222) rfl rfl
theorem q_703 : (Cond.code ({ cls := "FlatPlan$Plan", name := "soonestForm", desc := "()I" } : Jvm.MethodName) prog_6_method_31_code (4 : Nat) (Option.some FieldType.int)) ∈ gtbl := gt3 (i := 223) rfl rfl
theorem q_704 : (Cond.methodLink "FlatPlanLaw" (240 : Nat) ({ cls := "FlatPlan", name := "placeAds", desc := "()I" } : Jvm.MethodName)) ∈ gtbl := gt3 (i := 224) rfl rfl
theorem q_705 : (Cond.instanceMethod ({ cls := "FlatPlan", name := "placeAds", desc := "()I" } : Jvm.MethodName)) ∈ gtbl := gt3 (i := 225) rfl rfl
theorem q_706 : (Cond.selects "FlatPlan" ({ cls := "FlatPlan", name := "placeAds", desc := "()I" } : Jvm.MethodName) ({ cls := "FlatPlan", name := "placeAds", desc := "()I" } : Jvm.MethodName)) ∈ gtbl := gt3 (i := 226) rfl rfl
theorem q_707 : (Cond.code ({ cls := "FlatPlan", name := "placeAds", desc := "()I" } : Jvm.MethodName) prog_1_method_34_code (1 : Nat) (Option.some FieldType.int)) ∈ gtbl := gt3 (i := 227) rfl rfl
theorem q_708 : (Cond.methodLink "FlatPlan" (155 : Nat) ({ cls := "FlatPlan$History", name := "keep", desc := "(LFlatPlan$State;)V" } : Jvm.MethodName)) ∈ gtbl := gt3 (i := 228) rfl rfl
theorem q_709 : (Cond.instanceMethod ({ cls := "FlatPlan$History", name := "keep", desc := "(LFlatPlan$State;)V" } : Jvm.MethodName)) ∈ gtbl := gt3 (i := 229) rfl rfl
theorem q_710 : (Cond.selects "FlatPlan$History" ({ cls := "FlatPlan$History", name := "keep", desc := "(LFlatPlan$State;)V" } : Jvm.MethodName) ({ cls := "FlatPlan$History", name := "keep", desc := "(LFlatPlan$State;)V" } : Jvm.MethodName)) ∈ gtbl := gt3 (i := 230) rfl rfl
theorem q_711 : (Cond.code ({ cls := "FlatPlan$History", name := "keep", desc := "(LFlatPlan$State;)V" } : Jvm.MethodName) prog_5_method_2_code (2 : Nat) (Option.none : Option FieldType)) ∈ gtbl := gt3 (i := 231) rfl rfl
theorem q_712 : (Cond.methodLink "FlatPlan$History" (22 : Nat) ({ cls := "FlatPlan$State", name := "copyFrom", desc := "(LFlatPlan$State;)V" } : Jvm.MethodName)) ∈ gtbl := gt3 (i := 232) rfl rfl
theorem q_713 : (Cond.methodLink "FlatPlan$History" (29 : Nat) ({ cls := "java/lang/Math", name := "min", desc := "(II)I" } : Jvm.MethodName)) ∈ gtbl := gt3 (i := 233) rfl rfl
theorem q_714 : (Cond.methodLink "FlatPlan" (280 : Nat) ({ cls := "FlatPlan$Searches", name := "placeFreeAds", desc := "()I" } : Jvm.MethodName)) ∈ gtbl := gt3 (i := 234) rfl rfl
theorem q_715 : (Cond.instanceMethod ({ cls := "FlatPlan$Searches", name := "placeFreeAds", desc := "()I" } : Jvm.MethodName)) ∈ gtbl := gt3 (i := 235) rfl rfl
theorem q_716 : (Cond.selects "FlatPlan$Searches" ({ cls := "FlatPlan$Searches", name := "placeFreeAds", desc := "()I" } : Jvm.MethodName) ({ cls := "FlatPlan$Searches", name := "placeFreeAds", desc := "()I" } : Jvm.MethodName)) ∈ gtbl := gt3 (i := 236) rfl rfl
theorem q_717 : (Cond.code ({ cls := "FlatPlan$Searches", name := "placeFreeAds", desc := "()I" } : Jvm.MethodName) prog_8_method_2_code (5 : Nat) (Option.some FieldType.int)) ∈ gtbl := gt3 (i := 237) rfl rfl
theorem q_718 : (Cond.methodLink "FlatPlan$Searches" (63 : Nat) ({ cls := "FlatPlan$Searches", name := "insertAd", desc := "(II)V" } : Jvm.MethodName)) ∈ gtbl := gt3 (i := 238) rfl rfl
theorem q_720 : (Cond.instanceMethod ({ cls := "FlatPlan$Searches", name := "insertAd", desc := "(II)V" } : Jvm.MethodName)) ∈ gtbl := gt4 (i := 0) rfl rfl
theorem q_721 : (Cond.code ({ cls := "FlatPlan$Searches", name := "insertAd", desc := "(II)V" } : Jvm.MethodName) prog_8_method_3_code (4 : Nat) (Option.none : Option FieldType)) ∈ gtbl := gt4 (i := 1) rfl rfl
theorem q_722 : (Cond.methodLink "FlatPlan$Searches" (74 : Nat) ({ cls := "FlatPlan$Searches", name := "comesBefore", desc := "(II)Z" } : Jvm.MethodName)) ∈ gtbl := gt4 (i := 2) rfl rfl
theorem q_724 : (Cond.instanceMethod ({ cls := "FlatPlan$Searches", name := "comesBefore", desc := "(II)Z" } : Jvm.MethodName)) ∈ gtbl := gt4 (i := 4) rfl rfl
theorem q_725 : (Cond.code ({ cls := "FlatPlan$Searches", name := "comesBefore", desc := "(II)Z" } : Jvm.MethodName) prog_8_method_4_code (4 : Nat) (Option.some FieldType.boolean)) ∈ gtbl := gt4 (i := 5) rfl rfl
theorem q_726 : (Cond.methodLink "FlatPlan$Searches" (67 : Nat) ({ cls := "FlatPlan$Plan", name := "firstFor", desc := "(II)I" } : Jvm.MethodName)) ∈ gtbl := gt4 (i := 6) rfl rfl
theorem q_727 : (Cond.instanceMethod ({ cls := "FlatPlan$Plan", name := "firstFor", desc := "(II)I" } : Jvm.MethodName)) ∈ gtbl := gt4 (i := 7) rfl rfl
theorem q_728 : (Cond.selects "FlatPlan$Plan" ({ cls := "FlatPlan$Plan", name := "firstFor", desc := "(II)I" } : Jvm.MethodName) ({ cls := "FlatPlan$Plan", name := "firstFor", desc := "(II)I" } : Jvm.MethodName)) ∈ gtbl := gt4 (i := 8) rfl rfl
theorem q_729 : (Cond.code ({ cls := "FlatPlan$Plan", name := "firstFor", desc := "(II)I" } : Jvm.MethodName) prog_6_method_35_code (4 : Nat) (Option.some FieldType.int)) ∈ gtbl := gt4 (i := 9) rfl rfl
theorem q_730 : (Cond.methodLink "FlatPlan$Plan" (207 : Nat) ({ cls := "java/lang/Math", name := "max", desc := "(II)I" } : Jvm.MethodName)) ∈ gtbl := gt4 (i := 10) rfl rfl
theorem q_731 : (Cond.static ({ cls := "java/lang/Math", name := "max", desc := "(II)I" } : Jvm.MethodName)) ∈ gtbl := gt4 (i := 11) rfl rfl
theorem q_732 : (Cond.code ({ cls := "java/lang/Math", name := "max", desc := "(II)I" } : Jvm.MethodName) prog_20_method_65_code (2 : Nat) (Option.some FieldType.int)) ∈ gtbl := gt4 (i := 12) rfl rfl
theorem q_733 : (Cond.methodLink "FlatPlan$Plan" (210 : Nat) ({ cls := "FlatPlan$Plan", name := "adReason", desc := "(II)I" } : Jvm.MethodName)) ∈ gtbl := gt4 (i := 13) rfl rfl
theorem q_734 : (Cond.methodLink "FlatPlan$Searches" (71 : Nat) ({ cls := "FlatPlan$Plan", name := "recount", desc := "()V" } : Jvm.MethodName)) ∈ gtbl := gt4 (i := 14) rfl rfl
theorem q_735 : (Cond.methodLink "FlatPlanLaw" (244 : Nat) ({ cls := "FlatPlan", name := "layStories", desc := "()I" } : Jvm.MethodName)) ∈ gtbl := gt4 (i := 15) rfl rfl
theorem q_736 : (Cond.instanceMethod ({ cls := "FlatPlan", name := "layStories", desc := "()I" } : Jvm.MethodName)) ∈ gtbl := gt4 (i := 16) rfl rfl
theorem q_737 : (Cond.selects "FlatPlan" ({ cls := "FlatPlan", name := "layStories", desc := "()I" } : Jvm.MethodName) ({ cls := "FlatPlan", name := "layStories", desc := "()I" } : Jvm.MethodName)) ∈ gtbl := gt4 (i := 17) rfl rfl
theorem q_738 : (Cond.code ({ cls := "FlatPlan", name := "layStories", desc := "()I" } : Jvm.MethodName) prog_1_method_35_code (1 : Nat) (Option.some FieldType.int)) ∈ gtbl := gt4 (i := 18) rfl rfl
theorem q_739 : (Cond.methodLink "FlatPlan" (283 : Nat) ({ cls := "FlatPlan$Searches", name := "layFreeStories", desc := "()I" } : Jvm.MethodName)) ∈ gtbl := gt4 (i := 19) rfl rfl
theorem q_740 : (Cond.instanceMethod ({ cls := "FlatPlan$Searches", name := "layFreeStories", desc := "()I" } : Jvm.MethodName)) ∈ gtbl := gt4 (i := 20) rfl rfl
theorem q_741 : (Cond.selects "FlatPlan$Searches" ({ cls := "FlatPlan$Searches", name := "layFreeStories", desc := "()I" } : Jvm.MethodName) ({ cls := "FlatPlan$Searches", name := "layFreeStories", desc := "()I" } : Jvm.MethodName)) ∈ gtbl := gt4 (i := 21) rfl rfl
theorem q_742 : (Cond.code ({ cls := "FlatPlan$Searches", name := "layFreeStories", desc := "()I" } : Jvm.MethodName) prog_8_method_5_code (4 : Nat) (Option.some FieldType.int)) ∈ gtbl := gt4 (i := 22) rfl rfl
theorem q_743 : (Cond.methodLink "FlatPlan$Searches" (95 : Nat) ({ cls := "FlatPlan$Searches", name := "layFirst", desc := "(I)Z" } : Jvm.MethodName)) ∈ gtbl := gt4 (i := 23) rfl rfl
theorem q_745 : (Cond.instanceMethod ({ cls := "FlatPlan$Searches", name := "layFirst", desc := "(I)Z" } : Jvm.MethodName)) ∈ gtbl := gt4 (i := 25) rfl rfl
theorem q_746 : (Cond.code ({ cls := "FlatPlan$Searches", name := "layFirst", desc := "(I)Z" } : Jvm.MethodName) prog_8_method_6_code (3 : Nat) (Option.some FieldType.boolean)) ∈ gtbl := gt4 (i := 26) rfl rfl
theorem q_747 : (Cond.methodLink "FlatPlan$Searches" (102 : Nat) ({ cls := "FlatPlan$Plan", name := "layReason", desc := "(II)I" } : Jvm.MethodName)) ∈ gtbl := gt4 (i := 27) rfl rfl
theorem q_748 : (Cond.methodLink "FlatPlanLaw" (254 : Nat) ({ cls := "FlatPlan", name := "tightest", desc := "()I" } : Jvm.MethodName)) ∈ gtbl := gt4 (i := 28) rfl rfl
theorem q_749 : (Cond.instanceMethod ({ cls := "FlatPlan", name := "tightest", desc := "()I" } : Jvm.MethodName)) ∈ gtbl := gt4 (i := 29) rfl rfl
theorem q_750 : (Cond.selects "FlatPlan" ({ cls := "FlatPlan", name := "tightest", desc := "()I" } : Jvm.MethodName) ({ cls := "FlatPlan", name := "tightest", desc := "()I" } : Jvm.MethodName)) ∈ gtbl := gt4 (i := 30) rfl rfl
theorem q_751 : (Cond.code ({ cls := "FlatPlan", name := "tightest", desc := "()I" } : Jvm.MethodName) prog_1_method_38_code (1 : Nat) (Option.some FieldType.int)) ∈ gtbl := gt4 (i := 31) rfl rfl
theorem q_752 : (Cond.methodLink "FlatPlan" (292 : Nat) ({ cls := "FlatPlan$Searches", name := "tightestAd", desc := "()I" } : Jvm.MethodName)) ∈ gtbl := gt4 (i := 32) rfl rfl
theorem q_753 : (Cond.instanceMethod ({ cls := "FlatPlan$Searches", name := "tightestAd", desc := "()I" } : Jvm.MethodName)) ∈ gtbl := gt4 (i := 33) rfl rfl
theorem q_754 : (Cond.selects "FlatPlan$Searches" ({ cls := "FlatPlan$Searches", name := "tightestAd", desc := "()I" } : Jvm.MethodName) ({ cls := "FlatPlan$Searches", name := "tightestAd", desc := "()I" } : Jvm.MethodName)) ∈ gtbl := gt4 (i := 34) rfl rfl
theorem q_755 : (Cond.code ({ cls := "FlatPlan$Searches", name := "tightestAd", desc := "()I" } : Jvm.MethodName) prog_8_method_8_code (5 : Nat) (Option.some FieldType.int)) ∈ gtbl := gt4 (i := 35) rfl rfl
theorem q_756 : (Cond.methodLink "FlatPlan$Searches" (108 : Nat) ({ cls := "FlatPlan$Searches", name := "pagesFor", desc := "(I)I" } : Jvm.MethodName)) ∈ gtbl := gt4 (i := 36) rfl rfl
theorem q_757 : (Cond.instanceMethod ({ cls := "FlatPlan$Searches", name := "pagesFor", desc := "(I)I" } : Jvm.MethodName)) ∈ gtbl := gt4 (i := 37) rfl rfl
theorem q_758 : (Cond.selects "FlatPlan$Searches" ({ cls := "FlatPlan$Searches", name := "pagesFor", desc := "(I)I" } : Jvm.MethodName) ({ cls := "FlatPlan$Searches", name := "pagesFor", desc := "(I)I" } : Jvm.MethodName)) ∈ gtbl := gt4 (i := 38) rfl rfl
theorem q_759 : (Cond.code ({ cls := "FlatPlan$Searches", name := "pagesFor", desc := "(I)I" } : Jvm.MethodName) prog_8_method_7_code (4 : Nat) (Option.some FieldType.int)) ∈ gtbl := gt4 (i := 39) rfl rfl
theorem q_760 : (Cond.methodLink "FlatPlan$Searches" (105 : Nat) ({ cls := "FlatPlan$Plan", name := "adReason", desc := "(II)I" } : Jvm.MethodName)) ∈ gtbl := gt4 (i := 40) rfl rfl
theorem q_761 : (Cond.methodLink "FlatPlanLaw" (264 : Nat) ({ cls := "FlatPlan", name := "matching", desc := "()I" } : Jvm.MethodName)) ∈ gtbl := gt4 (i := 41) rfl rfl
theorem q_762 : (Cond.instanceMethod ({ cls := "FlatPlan", name := "matching", desc := "()I" } : Jvm.MethodName)) ∈ gtbl := gt4 (i := 42) rfl rfl
theorem q_763 : (Cond.selects "FlatPlan" ({ cls := "FlatPlan", name := "matching", desc := "()I" } : Jvm.MethodName) ({ cls := "FlatPlan", name := "matching", desc := "()I" } : Jvm.MethodName)) ∈ gtbl := gt4 (i := 43) rfl rfl
theorem q_764 : (Cond.code ({ cls := "FlatPlan", name := "matching", desc := "()I" } : Jvm.MethodName) prog_1_method_41_code (1 : Nat) (Option.some FieldType.int)) ∈ gtbl := gt4 (i := 44) rfl rfl
theorem q_765 : (Cond.methodLink "FlatPlan" (301 : Nat) ({ cls := "FlatPlan$Searches", name := "matchedAds", desc := "()I" } : Jvm.MethodName)) ∈ gtbl := gt4 (i := 45) rfl rfl
theorem q_766 : (Cond.instanceMethod ({ cls := "FlatPlan$Searches", name := "matchedAds", desc := "()I" } : Jvm.MethodName)) ∈ gtbl := gt4 (i := 46) rfl rfl
theorem q_767 : (Cond.selects "FlatPlan$Searches" ({ cls := "FlatPlan$Searches", name := "matchedAds", desc := "()I" } : Jvm.MethodName) ({ cls := "FlatPlan$Searches", name := "matchedAds", desc := "()I" } : Jvm.MethodName)) ∈ gtbl := gt4 (i := 47) rfl rfl
theorem q_768 : (Cond.code ({ cls := "FlatPlan$Searches", name := "matchedAds", desc := "()I" } : Jvm.MethodName) prog_8_method_14_code (3 : Nat) (Option.some FieldType.int)) ∈ gtbl := gt4 (i := 48) rfl rfl
theorem q_769 : (Cond.methodLink "FlatPlan$Searches" (140 : Nat) ({ cls := "java/util/Arrays", name := "fill", desc := "([II)V" } : Jvm.MethodName)) ∈ gtbl := gt4 (i := 49) rfl rfl
theorem q_770 : (Cond.methodLink "FlatPlan$Searches" (146 : Nat) ({ cls := "FlatPlan$Searches", name := "matchOneMore", desc := "(I)Z" } : Jvm.MethodName)) ∈ gtbl := gt4 (i := 50) rfl rfl
theorem q_772 : (Cond.instanceMethod ({ cls := "FlatPlan$Searches", name := "matchOneMore", desc := "(I)Z" } : Jvm.MethodName)) ∈ gtbl := gt4 (i := 52) rfl rfl
theorem q_773 : (Cond.code ({ cls := "FlatPlan$Searches", name := "matchOneMore", desc := "(I)Z" } : Jvm.MethodName) prog_8_method_15_code (5 : Nat) (Option.some FieldType.boolean)) ∈ gtbl := gt4 (i := 53) rfl rfl
theorem q_774 : (Cond.methodLink "FlatPlan$Searches" (149 : Nat) ({ cls := "FlatPlan$Searches", name := "mayMatch", desc := "(II)Z" } : Jvm.MethodName)) ∈ gtbl := gt4 (i := 54) rfl rfl
theorem q_776 : (Cond.instanceMethod ({ cls := "FlatPlan$Searches", name := "mayMatch", desc := "(II)Z" } : Jvm.MethodName)) ∈ gtbl := gt4 (i := 56) rfl rfl
theorem q_777 : (Cond.code ({ cls := "FlatPlan$Searches", name := "mayMatch", desc := "(II)Z" } : Jvm.MethodName) prog_8_method_16_code (4 : Nat) (Option.some FieldType.boolean)) ∈ gtbl := gt4 (i := 57) rfl rfl
theorem q_778 : (Cond.methodLink "FlatPlan$Searches" (152 : Nat) ({ cls := "FlatPlan$Searches", name := "changePartners", desc := "(I)V" } : Jvm.MethodName)) ∈ gtbl := gt4 (i := 58) rfl rfl
theorem q_780 : (Cond.instanceMethod ({ cls := "FlatPlan$Searches", name := "changePartners", desc := "(I)V" } : Jvm.MethodName)) ∈ gtbl := gt4 (i := 60) rfl rfl
theorem q_781 : (Cond.code ({ cls := "FlatPlan$Searches", name := "changePartners", desc := "(I)V" } : Jvm.MethodName) prog_8_method_17_code (6 : Nat) (Option.none : Option FieldType)) ∈ gtbl := gt4 (i := 61) rfl rfl
theorem q_782 : (Cond.methodLink "FlatPlanLaw" (307 : Nat) ({ cls := "FlatPlan", name := "betterExchange", desc := "()I" } : Jvm.MethodName)) ∈ gtbl := gt4 (i := 62) rfl rfl
theorem q_783 : (Cond.instanceMethod ({ cls := "FlatPlan", name := "betterExchange", desc := "()I" } : Jvm.MethodName)) ∈ gtbl := gt4 (i := 63) rfl rfl
theorem q_784 : (Cond.selects "FlatPlan" ({ cls := "FlatPlan", name := "betterExchange", desc := "()I" } : Jvm.MethodName) ({ cls := "FlatPlan", name := "betterExchange", desc := "()I" } : Jvm.MethodName)) ∈ gtbl := gt4 (i := 64) rfl rfl
theorem q_785 : (Cond.code ({ cls := "FlatPlan", name := "betterExchange", desc := "()I" } : Jvm.MethodName) prog_1_method_43_code (1 : Nat) (Option.some FieldType.int)) ∈ gtbl := gt4 (i := 65) rfl rfl
theorem q_786 : (Cond.methodLink "FlatPlan" (309 : Nat) ({ cls := "FlatPlan$Searches", name := "bestExchange", desc := "()I" } : Jvm.MethodName)) ∈ gtbl := gt4 (i := 66) rfl rfl
theorem q_787 : (Cond.instanceMethod ({ cls := "FlatPlan$Searches", name := "bestExchange", desc := "()I" } : Jvm.MethodName)) ∈ gtbl := gt4 (i := 67) rfl rfl
theorem q_788 : (Cond.selects "FlatPlan$Searches" ({ cls := "FlatPlan$Searches", name := "bestExchange", desc := "()I" } : Jvm.MethodName) ({ cls := "FlatPlan$Searches", name := "bestExchange", desc := "()I" } : Jvm.MethodName)) ∈ gtbl := gt4 (i := 68) rfl rfl
theorem q_789 : (Cond.code ({ cls := "FlatPlan$Searches", name := "bestExchange", desc := "()I" } : Jvm.MethodName) prog_8_method_20_code (6 : Nat) (Option.some FieldType.int)) ∈ gtbl := gt4 (i := 69) rfl rfl
theorem q_790 : (Cond.methodLink "FlatPlan$Searches" (181 : Nat) ({ cls := "FlatPlan$Searches", name := "countColorPages", desc := "()V" } : Jvm.MethodName)) ∈ gtbl := gt4 (i := 70) rfl rfl
theorem q_792 : (Cond.instanceMethod ({ cls := "FlatPlan$Searches", name := "countColorPages", desc := "()V" } : Jvm.MethodName)) ∈ gtbl := gt4 (i := 72) rfl rfl
theorem q_793 : (Cond.code ({ cls := "FlatPlan$Searches", name := "countColorPages", desc := "()V" } : Jvm.MethodName) prog_8_method_21_code (3 : Nat) (Option.none : Option FieldType)) ∈ gtbl := gt4 (i := 73) rfl rfl
theorem q_794 : (Cond.methodLink "FlatPlan$Searches" (190 : Nat) ({ cls := "FlatPlan$Plan", name := "hasPage", desc := "(I)Z" } : Jvm.MethodName)) ∈ gtbl := gt4 (i := 74) rfl rfl
theorem q_795 : (Cond.methodLink "FlatPlan$Searches" (184 : Nat) ({ cls := "FlatPlan$Searches", name := "fewerColorForms", desc := "(II)I" } : Jvm.MethodName)) ∈ gtbl := gt4 (i := 75) rfl rfl
theorem q_797 : (Cond.instanceMethod ({ cls := "FlatPlan$Searches", name := "fewerColorForms", desc := "(II)I" } : Jvm.MethodName)) ∈ gtbl := gt4 (i := 77) rfl rfl
theorem q_798 : (Cond.code ({ cls := "FlatPlan$Searches", name := "fewerColorForms", desc := "(II)I" } : Jvm.MethodName) prog_8_method_22_code (6 : Nat) (Option.some FieldType.int)) ∈ gtbl := gt4 (i := 78) rfl rfl
theorem q_799 : (Cond.methodLink "FlatPlan$Searches" (198 : Nat) ({ cls := "FlatPlan$Searches", name := "oneIfAny", desc := "(I)I" } : Jvm.MethodName)) ∈ gtbl := gt4 (i := 79) rfl rfl
theorem q_800 : (Cond.static ({ cls := "FlatPlan$Searches", name := "oneIfAny", desc := "(I)I" } : Jvm.MethodName)) ∈ gtbl := gt4 (i := 80) rfl rfl
theorem q_801 : (Cond.code ({ cls := "FlatPlan$Searches", name := "oneIfAny", desc := "(I)I" } : Jvm.MethodName) prog_8_method_23_code (1 : Nat) (Option.some FieldType.int)) ∈ gtbl := gt4 (i := 81) rfl rfl
theorem q_802 : (Cond.methodLink "FlatPlan$Searches" (187 : Nat) ({ cls := "FlatPlan$Plan", name := "exchangeReason", desc := "(II)I" } : Jvm.MethodName)) ∈ gtbl := gt4 (i := 82) rfl rfl
theorem q_803 : (Cond.instanceMethod ({ cls := "FlatPlan$Plan", name := "exchangeReason", desc := "(II)I" } : Jvm.MethodName)) ∈ gtbl := gt4 (i := 83) rfl rfl
theorem q_804 : (Cond.selects "FlatPlan$Plan" ({ cls := "FlatPlan$Plan", name := "exchangeReason", desc := "(II)I" } : Jvm.MethodName) ({ cls := "FlatPlan$Plan", name := "exchangeReason", desc := "(II)I" } : Jvm.MethodName)) ∈ gtbl := gt4 (i := 84) rfl rfl
theorem q_805 : (Cond.code ({ cls := "FlatPlan$Plan", name := "exchangeReason", desc := "(II)I" } : Jvm.MethodName) prog_6_method_20_code (5 : Nat) (Option.some FieldType.int)) ∈ gtbl := gt4 (i := 85) rfl rfl
theorem q_806 : (Cond.methodLink "FlatPlan$Plan" (163 : Nat) ({ cls := "FlatPlan$Plan", name := "exchangedReason", desc := "(III)I" } : Jvm.MethodName)) ∈ gtbl := gt4 (i := 86) rfl rfl
theorem q_808 : (Cond.instanceMethod ({ cls := "FlatPlan$Plan", name := "exchangedReason", desc := "(III)I" } : Jvm.MethodName)) ∈ gtbl := gt4 (i := 88) rfl rfl
theorem q_809 : (Cond.code ({ cls := "FlatPlan$Plan", name := "exchangedReason", desc := "(III)I" } : Jvm.MethodName) prog_6_method_21_code (7 : Nat) (Option.some FieldType.int)) ∈ gtbl := gt4 (i := 89) rfl rfl
theorem q_810 : (Cond.methodLink "FlatPlan$Plan" (167 : Nat) ({ cls := "FlatPlan$Plan", name := "exchanged", desc := "(III)I" } : Jvm.MethodName)) ∈ gtbl := gt4 (i := 90) rfl rfl
theorem q_811 : (Cond.static ({ cls := "FlatPlan$Plan", name := "exchanged", desc := "(III)I" } : Jvm.MethodName)) ∈ gtbl := gt4 (i := 91) rfl rfl
theorem q_812 : (Cond.code ({ cls := "FlatPlan$Plan", name := "exchanged", desc := "(III)I" } : Jvm.MethodName) prog_6_method_22_code (3 : Nat) (Option.some FieldType.int)) ∈ gtbl := gt4 (i := 92) rfl rfl
theorem q_813 : (Cond.methodLink "FlatPlan$Plan" (170 : Nat) ({ cls := "FlatPlan$Ads", name := "areRivals", desc := "(II)Z" } : Jvm.MethodName)) ∈ gtbl := gt4 (i := 93) rfl rfl
theorem q_814 : (Cond.instanceMethod ({ cls := "FlatPlan$Ads", name := "areRivals", desc := "(II)Z" } : Jvm.MethodName)) ∈ gtbl := gt4 (i := 94) rfl rfl
theorem q_815 : (Cond.selects "FlatPlan$Ads" ({ cls := "FlatPlan$Ads", name := "areRivals", desc := "(II)Z" } : Jvm.MethodName) ({ cls := "FlatPlan$Ads", name := "areRivals", desc := "(II)Z" } : Jvm.MethodName)) ∈ gtbl := gt4 (i := 95) rfl rfl
theorem q_816 : (Cond.code ({ cls := "FlatPlan$Ads", name := "areRivals", desc := "(II)Z" } : Jvm.MethodName) prog_2_method_3_code (3 : Nat) (Option.some FieldType.boolean)) ∈ gtbl := gt4 (i := 96) rfl rfl
theorem q_817 : (Cond.methodLink "FlatPlanLaw" (299 : Nat) ({ cls := "FlatPlan", name := "lateItem", desc := "(I)I" } : Jvm.MethodName)) ∈ gtbl := gt4 (i := 97) rfl rfl
theorem q_818 : (Cond.instanceMethod ({ cls := "FlatPlan", name := "lateItem", desc := "(I)I" } : Jvm.MethodName)) ∈ gtbl := gt4 (i := 98) rfl rfl
theorem q_819 : (Cond.selects "FlatPlan" ({ cls := "FlatPlan", name := "lateItem", desc := "(I)I" } : Jvm.MethodName) ({ cls := "FlatPlan", name := "lateItem", desc := "(I)I" } : Jvm.MethodName)) ∈ gtbl := gt4 (i := 99) rfl rfl
theorem q_820 : (Cond.code ({ cls := "FlatPlan", name := "lateItem", desc := "(I)I" } : Jvm.MethodName) prog_1_method_44_code (2 : Nat) (Option.some FieldType.int)) ∈ gtbl := gt4 (i := 100) rfl rfl
theorem q_821 : (Cond.methodLink "FlatPlan" (312 : Nat) ({ cls := "FlatPlan$Searches", name := "lateItemAt", desc := "(I)I" } : Jvm.MethodName)) ∈ gtbl := gt4 (i := 101) rfl rfl
theorem q_822 : (Cond.instanceMethod ({ cls := "FlatPlan$Searches", name := "lateItemAt", desc := "(I)I" } : Jvm.MethodName)) ∈ gtbl := gt4 (i := 102) rfl rfl
theorem q_823 : (Cond.selects "FlatPlan$Searches" ({ cls := "FlatPlan$Searches", name := "lateItemAt", desc := "(I)I" } : Jvm.MethodName) ({ cls := "FlatPlan$Searches", name := "lateItemAt", desc := "(I)I" } : Jvm.MethodName)) ∈ gtbl := gt4 (i := 103) rfl rfl
theorem q_824 : (Cond.code ({ cls := "FlatPlan$Searches", name := "lateItemAt", desc := "(I)I" } : Jvm.MethodName) prog_8_method_24_code (4 : Nat) (Option.some FieldType.int)) ∈ gtbl := gt4 (i := 104) rfl rfl
theorem q_825 : (Cond.methodLink "FlatPlan$Searches" (201 : Nat) ({ cls := "FlatPlan$Searches", name := "nextLateRank", desc := "(I)I" } : Jvm.MethodName)) ∈ gtbl := gt4 (i := 105) rfl rfl
theorem q_827 : (Cond.instanceMethod ({ cls := "FlatPlan$Searches", name := "nextLateRank", desc := "(I)I" } : Jvm.MethodName)) ∈ gtbl := gt4 (i := 107) rfl rfl
theorem q_828 : (Cond.code ({ cls := "FlatPlan$Searches", name := "nextLateRank", desc := "(I)I" } : Jvm.MethodName) prog_8_method_25_code (5 : Nat) (Option.some FieldType.int)) ∈ gtbl := gt4 (i := 108) rfl rfl
theorem q_829 : (Cond.methodLink "FlatPlan$Searches" (204 : Nat) ({ cls := "FlatPlan$Searches", name := "adIsOpen", desc := "(I)Z" } : Jvm.MethodName)) ∈ gtbl := gt4 (i := 109) rfl rfl
theorem q_831 : (Cond.instanceMethod ({ cls := "FlatPlan$Searches", name := "adIsOpen", desc := "(I)Z" } : Jvm.MethodName)) ∈ gtbl := gt4 (i := 111) rfl rfl
theorem q_832 : (Cond.code ({ cls := "FlatPlan$Searches", name := "adIsOpen", desc := "(I)Z" } : Jvm.MethodName) prog_8_method_28_code (2 : Nat) (Option.some FieldType.boolean)) ∈ gtbl := gt4 (i := 112) rfl rfl
theorem q_833 : (Cond.methodLink "FlatPlan$Searches" (127 : Nat) ({ cls := "FlatPlan$Plan", name := "isPrinted", desc := "(I)Z" } : Jvm.MethodName)) ∈ gtbl := gt4 (i := 113) rfl rfl
theorem q_834 : (Cond.methodLink "FlatPlan$Searches" (210 : Nat) ({ cls := "FlatPlan$Plan", name := "isLate", desc := "(I)Z" } : Jvm.MethodName)) ∈ gtbl := gt4 (i := 114) rfl rfl
theorem q_835 : (Cond.instanceMethod ({ cls := "FlatPlan$Plan", name := "isLate", desc := "(I)Z" } : Jvm.MethodName)) ∈ gtbl := gt4 (i := 115) rfl rfl
theorem q_836 : (Cond.selects "FlatPlan$Plan" ({ cls := "FlatPlan$Plan", name := "isLate", desc := "(I)Z" } : Jvm.MethodName) ({ cls := "FlatPlan$Plan", name := "isLate", desc := "(I)Z" } : Jvm.MethodName)) ∈ gtbl := gt4 (i := 116) rfl rfl
theorem q_837 : (Cond.code ({ cls := "FlatPlan$Plan", name := "isLate", desc := "(I)Z" } : Jvm.MethodName) prog_6_method_9_code (2 : Nat) (Option.some FieldType.boolean)) ∈ gtbl := gt4 (i := 117) rfl rfl
theorem q_838 : (Cond.methodLink "FlatPlan$Searches" (213 : Nat) ({ cls := "FlatPlan$Searches", name := "rankOf", desc := "(II)I" } : Jvm.MethodName)) ∈ gtbl := gt4 (i := 118) rfl rfl
theorem q_839 : (Cond.static ({ cls := "FlatPlan$Searches", name := "rankOf", desc := "(II)I" } : Jvm.MethodName)) ∈ gtbl := gt4 (i := 119) rfl rfl
theorem q_840 : (Cond.code ({ cls := "FlatPlan$Searches", name := "rankOf", desc := "(II)I" } : Jvm.MethodName) prog_8_method_26_code (2 : Nat) (Option.some FieldType.int)) ∈ gtbl := gt4 (i := 120) rfl rfl
theorem q_841 : (Cond.methodLink "FlatPlan$Searches" (216 : Nat) ({ cls := "FlatPlan$Searches", name := "nearerRank", desc := "(III)I" } : Jvm.MethodName)) ∈ gtbl := gt4 (i := 121) rfl rfl
theorem q_842 : (Cond.static ({ cls := "FlatPlan$Searches", name := "nearerRank", desc := "(III)I" } : Jvm.MethodName)) ∈ gtbl := gt4 (i := 122) rfl rfl
theorem q_843 : (Cond.code ({ cls := "FlatPlan$Searches", name := "nearerRank", desc := "(III)I" } : Jvm.MethodName) prog_8_method_27_code (3 : Nat) (Option.some FieldType.int)) ∈ gtbl := gt4 (i := 123) rfl rfl
theorem q_844 : (Cond.methodLink "FlatPlan$Searches" (220 : Nat) ({ cls := "FlatPlan$Plan", name := "storyIsOpen", desc := "(I)Z" } : Jvm.MethodName)) ∈ gtbl := gt4 (i := 124) rfl rfl
theorem q_845 : (Cond.instanceMethod ({ cls := "FlatPlan$Plan", name := "storyIsOpen", desc := "(I)Z" } : Jvm.MethodName)) ∈ gtbl := gt4 (i := 125) rfl rfl
theorem q_846 : (Cond.selects "FlatPlan$Plan" ({ cls := "FlatPlan$Plan", name := "storyIsOpen", desc := "(I)Z" } : Jvm.MethodName) ({ cls := "FlatPlan$Plan", name := "storyIsOpen", desc := "(I)Z" } : Jvm.MethodName)) ∈ gtbl := gt4 (i := 126) rfl rfl
theorem q_847 : (Cond.code ({ cls := "FlatPlan$Plan", name := "storyIsOpen", desc := "(I)Z" } : Jvm.MethodName) prog_6_method_25_code (2 : Nat) (Option.some FieldType.boolean)) ∈ gtbl := gt4 (i := 127) rfl rfl
theorem q_848 : (Cond.methodLink "FlatPlan$Plan" (177 : Nat) ({ cls := "FlatPlan$Plan", name := "storyIsOnFormThat", desc := "(II)Z" } : Jvm.MethodName)) ∈ gtbl := gt4 (i := 128) rfl rfl
theorem q_850 : (Cond.instanceMethod ({ cls := "FlatPlan$Plan", name := "storyIsOnFormThat", desc := "(II)Z" } : Jvm.MethodName)) ∈ gtbl := gt4 (i := 130) rfl rfl
theorem q_851 : (Cond.code ({ cls := "FlatPlan$Plan", name := "storyIsOnFormThat", desc := "(II)Z" } : Jvm.MethodName) prog_6_method_26_code (4 : Nat) (Option.some FieldType.boolean)) ∈ gtbl := gt4 (i := 131) rfl rfl
theorem q_852 : (Cond.methodLink "FlatPlan$Plan" (180 : Nat) ({ cls := "FlatPlan$Plan", name := "storyIsOn", desc := "(II)Z" } : Jvm.MethodName)) ∈ gtbl := gt4 (i := 132) rfl rfl
theorem q_853 : (Cond.instanceMethod ({ cls := "FlatPlan$Plan", name := "storyIsOn", desc := "(II)Z" } : Jvm.MethodName)) ∈ gtbl := gt4 (i := 133) rfl rfl
theorem q_854 : (Cond.selects "FlatPlan$Plan" ({ cls := "FlatPlan$Plan", name := "storyIsOn", desc := "(II)Z" } : Jvm.MethodName) ({ cls := "FlatPlan$Plan", name := "storyIsOn", desc := "(II)Z" } : Jvm.MethodName)) ∈ gtbl := gt4 (i := 134) rfl rfl
theorem q_855 : (Cond.code ({ cls := "FlatPlan$Plan", name := "storyIsOn", desc := "(II)Z" } : Jvm.MethodName) prog_6_method_23_code (5 : Nat) (Option.some FieldType.boolean)) ∈ gtbl := gt4 (i := 135) rfl rfl
theorem q_856 : (Cond.methodLink "FlatPlan$Plan" (173 : Nat) ({ cls := "FlatPlan$Plan", name := "formAt", desc := "(I)I" } : Jvm.MethodName)) ∈ gtbl := gt4 (i := 136) rfl rfl
theorem q_857 : (Cond.instanceMethod ({ cls := "FlatPlan$Plan", name := "formAt", desc := "(I)I" } : Jvm.MethodName)) ∈ gtbl := gt4 (i := 137) rfl rfl
theorem q_858 : (Cond.selects "FlatPlan$Plan" ({ cls := "FlatPlan$Plan", name := "formAt", desc := "(I)I" } : Jvm.MethodName) ({ cls := "FlatPlan$Plan", name := "formAt", desc := "(I)I" } : Jvm.MethodName)) ∈ gtbl := gt4 (i := 138) rfl rfl
theorem q_859 : (Cond.code ({ cls := "FlatPlan$Plan", name := "formAt", desc := "(I)I" } : Jvm.MethodName) prog_6_method_7_code (2 : Nat) (Option.some FieldType.int)) ∈ gtbl := gt4 (i := 139) rfl rfl
theorem q_860 : (Cond.methodLink "FlatPlanLaw" (303 : Nat) ({ cls := "FlatPlan", name := "lastReady", desc := "()I" } : Jvm.MethodName)) ∈ gtbl := gt4 (i := 140) rfl rfl
theorem q_861 : (Cond.instanceMethod ({ cls := "FlatPlan", name := "lastReady", desc := "()I" } : Jvm.MethodName)) ∈ gtbl := gt4 (i := 141) rfl rfl
theorem q_862 : (Cond.selects "FlatPlan" ({ cls := "FlatPlan", name := "lastReady", desc := "()I" } : Jvm.MethodName) ({ cls := "FlatPlan", name := "lastReady", desc := "()I" } : Jvm.MethodName)) ∈ gtbl := gt4 (i := 142) rfl rfl
theorem q_863 : (Cond.code ({ cls := "FlatPlan", name := "lastReady", desc := "()I" } : Jvm.MethodName) prog_1_method_45_code (1 : Nat) (Option.some FieldType.int)) ∈ gtbl := gt4 (i := 143) rfl rfl
theorem q_864 : (Cond.methodLink "FlatPlan" (315 : Nat) ({ cls := "FlatPlan$Searches", name := "readyLast", desc := "()I" } : Jvm.MethodName)) ∈ gtbl := gt4 (i := 144) rfl rfl
theorem q_865 : (Cond.instanceMethod ({ cls := "FlatPlan$Searches", name := "readyLast", desc := "()I" } : Jvm.MethodName)) ∈ gtbl := gt4 (i := 145) rfl rfl
theorem q_866 : (Cond.selects "FlatPlan$Searches" ({ cls := "FlatPlan$Searches", name := "readyLast", desc := "()I" } : Jvm.MethodName) ({ cls := "FlatPlan$Searches", name := "readyLast", desc := "()I" } : Jvm.MethodName)) ∈ gtbl := gt4 (i := 146) rfl rfl
theorem q_867 : (Cond.code ({ cls := "FlatPlan$Searches", name := "readyLast", desc := "()I" } : Jvm.MethodName) prog_8_method_29_code (4 : Nat) (Option.some FieldType.int)) ∈ gtbl := gt4 (i := 147) rfl rfl
theorem q_868 : (Cond.methodLink "FlatPlanLaw" (314 : Nat) ({ cls := "FlatPlan", name := "emptiest", desc := "(I)I" } : Jvm.MethodName)) ∈ gtbl := gt4 (i := 148) rfl rfl
theorem q_869 : (Cond.instanceMethod ({ cls := "FlatPlan", name := "emptiest", desc := "(I)I" } : Jvm.MethodName)) ∈ gtbl := gt4 (i := 149) rfl rfl
theorem q_870 : (Cond.selects "FlatPlan" ({ cls := "FlatPlan", name := "emptiest", desc := "(I)I" } : Jvm.MethodName) ({ cls := "FlatPlan", name := "emptiest", desc := "(I)I" } : Jvm.MethodName)) ∈ gtbl := gt4 (i := 150) rfl rfl
theorem q_871 : (Cond.code ({ cls := "FlatPlan", name := "emptiest", desc := "(I)I" } : Jvm.MethodName) prog_1_method_47_code (5 : Nat) (Option.some FieldType.int)) ∈ gtbl := gt4 (i := 151) rfl rfl
theorem q_872 : (Cond.methodLink "FlatPlanLaw" (271 : Nat) ({ cls := "FlatPlan", name := "nearRivals", desc := "()I" } : Jvm.MethodName)) ∈ gtbl := gt4 (i := 152) rfl rfl
theorem q_873 : (Cond.instanceMethod ({ cls := "FlatPlan", name := "nearRivals", desc := "()I" } : Jvm.MethodName)) ∈ gtbl := gt4 (i := 153) rfl rfl
theorem q_874 : (Cond.selects "FlatPlan" ({ cls := "FlatPlan", name := "nearRivals", desc := "()I" } : Jvm.MethodName) ({ cls := "FlatPlan", name := "nearRivals", desc := "()I" } : Jvm.MethodName)) ∈ gtbl := gt4 (i := 154) rfl rfl
theorem q_875 : (Cond.code ({ cls := "FlatPlan", name := "nearRivals", desc := "()I" } : Jvm.MethodName) prog_1_method_48_code (5 : Nat) (Option.some FieldType.int)) ∈ gtbl := gt4 (i := 155) rfl rfl
theorem q_876 : (Cond.methodLink "FlatPlan" (320 : Nat) ({ cls := "FlatPlan$Ads", name := "areRivals", desc := "(II)Z" } : Jvm.MethodName)) ∈ gtbl := gt4 (i := 156) rfl rfl
theorem q_877 : (Cond.methodLink "FlatPlan" (324 : Nat) ({ cls := "java/lang/Math", name := "abs", desc := "(I)I" } : Jvm.MethodName)) ∈ gtbl := gt4 (i := 157) rfl rfl
theorem q_878 : (Cond.static ({ cls := "java/lang/Math", name := "abs", desc := "(I)I" } : Jvm.MethodName)) ∈ gtbl := gt4 (i := 158) rfl rfl
theorem q_879 : (Cond.code ({ cls := "java/lang/Math", name := "abs", desc := "(I)I" } : Jvm.MethodName) prog_20_method_59_code (1 : Nat) (Option.some FieldType.int)) ∈ gtbl := gt4 (i := 159) rfl rfl
theorem q_880 : (Cond.methodLink "FlatPlanLaw" (281 : Nat) ({ cls := "FlatPlan", name := "revenue", desc := "()I" } : Jvm.MethodName)) ∈ gtbl := gt4 (i := 160) rfl rfl
theorem q_881 : (Cond.instanceMethod ({ cls := "FlatPlan", name := "revenue", desc := "()I" } : Jvm.MethodName)) ∈ gtbl := gt4 (i := 161) rfl rfl
theorem q_882 : (Cond.selects "FlatPlan" ({ cls := "FlatPlan", name := "revenue", desc := "()I" } : Jvm.MethodName) ({ cls := "FlatPlan", name := "revenue", desc := "()I" } : Jvm.MethodName)) ∈ gtbl := gt4 (i := 162) rfl rfl
theorem q_883 : (Cond.code ({ cls := "FlatPlan", name := "revenue", desc := "()I" } : Jvm.MethodName) prog_1_method_51_code (4 : Nat) (Option.some FieldType.int)) ∈ gtbl := gt4 (i := 163) rfl rfl
theorem q_884 : (Cond.methodLink "FlatPlanLaw" (291 : Nat) ({ cls := "FlatPlan", name := "lost", desc := "()I" } : Jvm.MethodName)) ∈ gtbl := gt4 (i := 164) rfl rfl
theorem q_885 : (Cond.instanceMethod ({ cls := "FlatPlan", name := "lost", desc := "()I" } : Jvm.MethodName)) ∈ gtbl := gt4 (i := 165) rfl rfl
theorem q_886 : (Cond.selects "FlatPlan" ({ cls := "FlatPlan", name := "lost", desc := "()I" } : Jvm.MethodName) ({ cls := "FlatPlan", name := "lost", desc := "()I" } : Jvm.MethodName)) ∈ gtbl := gt4 (i := 166) rfl rfl
theorem q_887 : (Cond.code ({ cls := "FlatPlan", name := "lost", desc := "()I" } : Jvm.MethodName) prog_1_method_54_code (1 : Nat) (Option.some FieldType.int)) ∈ gtbl := gt4 (i := 167) rfl rfl
theorem q_888 : (Cond.methodLink "FlatPlanLaw" (295 : Nat) ({ cls := "FlatPlan", name := "endangered", desc := "()I" } : Jvm.MethodName)) ∈ gtbl := gt4 (i := 168) rfl rfl
theorem q_889 : (Cond.instanceMethod ({ cls := "FlatPlan", name := "endangered", desc := "()I" } : Jvm.MethodName)) ∈ gtbl := gt4 (i := 169) rfl rfl
theorem q_890 : (Cond.selects "FlatPlan" ({ cls := "FlatPlan", name := "endangered", desc := "()I" } : Jvm.MethodName) ({ cls := "FlatPlan", name := "endangered", desc := "()I" } : Jvm.MethodName)) ∈ gtbl := gt4 (i := 170) rfl rfl
theorem q_891 : (Cond.code ({ cls := "FlatPlan", name := "endangered", desc := "()I" } : Jvm.MethodName) prog_1_method_55_code (6 : Nat) (Option.some FieldType.int)) ∈ gtbl := gt4 (i := 171) rfl rfl
theorem q_892 : (Cond.methodLink "FlatPlan" (337 : Nat) ({ cls := "FlatPlan$Plan", name := "formAt", desc := "(I)I" } : Jvm.MethodName)) ∈ gtbl := gt4 (i := 172) rfl rfl
theorem q_893 : (Cond.methodLink "FlatPlanLaw" (318 : Nat) ({ cls := "FlatPlan", name := "fill", desc := "()D" } : Jvm.MethodName)) ∈ gtbl := gt4 (i := 173) rfl rfl
theorem q_894 : (Cond.instanceMethod ({ cls := "FlatPlan", name := "fill", desc := "()D" } : Jvm.MethodName)) ∈ gtbl := gt4 (i := 174) rfl rfl
theorem q_895 : (Cond.selects "FlatPlan" ({ cls := "FlatPlan", name := "fill", desc := "()D" } : Jvm.MethodName) ({ cls := "FlatPlan", name := "fill", desc := "()D" } : Jvm.MethodName)) ∈ gtbl := gt4 (i := 175) rfl rfl
theorem q_896 : (Cond.code ({ cls := "FlatPlan", name := "fill", desc := "()D" } : Jvm.MethodName) prog_1_method_56_code (3 : Nat) (Option.some FieldType.double)) ∈ gtbl := gt4 (i := 176) rfl rfl
theorem q_897 : (Cond.methodLink "FlatPlanLaw" (329 : Nat) ({ cls := "FlatPlan", name := "describedByte", desc := "(I)I" } : Jvm.MethodName)) ∈ gtbl := gt4 (i := 177) rfl rfl
theorem q_898 : (Cond.instanceMethod ({ cls := "FlatPlan", name := "describedByte", desc := "(I)I" } : Jvm.MethodName)) ∈ gtbl := gt4 (i := 178) rfl rfl
theorem q_899 : (Cond.selects "FlatPlan" ({ cls := "FlatPlan", name := "describedByte", desc := "(I)I" } : Jvm.MethodName) ({ cls := "FlatPlan", name := "describedByte", desc := "(I)I" } : Jvm.MethodName)) ∈ gtbl := gt4 (i := 179) rfl rfl
theorem q_900 : (Cond.code ({ cls := "FlatPlan", name := "describedByte", desc := "(I)I" } : Jvm.MethodName) prog_1_method_59_code (2 : Nat) (Option.some FieldType.int)) ∈ gtbl := gt4 (i := 180) rfl rfl
theorem q_901 : (Cond.methodLink "FlatPlan" (355 : Nat) ({ cls := "FlatPlan$Bytes", name := "byteAt", desc := "(I)I" } : Jvm.MethodName)) ∈ gtbl := gt4 (i := 181) rfl rfl
theorem q_902 : (Cond.methodLink "FlatPlanLaw" (333 : Nat) ({ cls := "FlatPlan", name := "digest", desc := "()I" } : Jvm.MethodName)) ∈ gtbl := gt4 (i := 182) rfl rfl
theorem q_903 : (Cond.instanceMethod ({ cls := "FlatPlan", name := "digest", desc := "()I" } : Jvm.MethodName)) ∈ gtbl := gt4 (i := 183) rfl rfl
theorem q_904 : (Cond.selects "FlatPlan" ({ cls := "FlatPlan", name := "digest", desc := "()I" } : Jvm.MethodName) ({ cls := "FlatPlan", name := "digest", desc := "()I" } : Jvm.MethodName)) ∈ gtbl := gt4 (i := 184) rfl rfl
theorem q_905 : (Cond.code ({ cls := "FlatPlan", name := "digest", desc := "()I" } : Jvm.MethodName) prog_1_method_60_code (4 : Nat) (Option.some FieldType.int)) ∈ gtbl := gt4 (i := 185) rfl rfl
theorem q_906 : (Cond.methodLink "FlatPlanLaw" (337 : Nat) ({ cls := "FlatPlan", name := "undo", desc := "()Z" } : Jvm.MethodName)) ∈ gtbl := gt4 (i := 186) rfl rfl
theorem q_907 : (Cond.instanceMethod ({ cls := "FlatPlan", name := "undo", desc := "()Z" } : Jvm.MethodName)) ∈ gtbl := gt4 (i := 187) rfl rfl
theorem q_908 : (Cond.selects "FlatPlan" ({ cls := "FlatPlan", name := "undo", desc := "()Z" } : Jvm.MethodName) ({ cls := "FlatPlan", name := "undo", desc := "()Z" } : Jvm.MethodName)) ∈ gtbl := gt4 (i := 188) rfl rfl
theorem q_909 : (Cond.code ({ cls := "FlatPlan", name := "undo", desc := "()Z" } : Jvm.MethodName) prog_1_method_61_code (1 : Nat) (Option.some FieldType.boolean)) ∈ gtbl := gt4 (i := 189) rfl rfl
theorem q_910 : (Cond.methodLink "FlatPlan" (358 : Nat) ({ cls := "FlatPlan$History", name := "bringBack", desc := "(LFlatPlan$Plan;)Z" } : Jvm.MethodName)) ∈ gtbl := gt4 (i := 190) rfl rfl
theorem q_911 : (Cond.instanceMethod ({ cls := "FlatPlan$History", name := "bringBack", desc := "(LFlatPlan$Plan;)Z" } : Jvm.MethodName)) ∈ gtbl := gt4 (i := 191) rfl rfl
theorem q_912 : (Cond.selects "FlatPlan$History" ({ cls := "FlatPlan$History", name := "bringBack", desc := "(LFlatPlan$Plan;)Z" } : Jvm.MethodName) ({ cls := "FlatPlan$History", name := "bringBack", desc := "(LFlatPlan$Plan;)Z" } : Jvm.MethodName)) ∈ gtbl := gt4 (i := 192) rfl rfl
theorem q_913 : (Cond.code ({ cls := "FlatPlan$History", name := "bringBack", desc := "(LFlatPlan$Plan;)Z" } : Jvm.MethodName) prog_5_method_3_code (2 : Nat) (Option.some FieldType.boolean)) ∈ gtbl := gt4 (i := 193) rfl rfl
theorem q_914 : (Cond.methodLink "FlatPlan$History" (35 : Nat) ({ cls := "FlatPlan$Plan", name := "become", desc := "(LFlatPlan$State;)V" } : Jvm.MethodName)) ∈ gtbl := gt4 (i := 194) rfl rfl
theorem q_915 : (Cond.methodLink "FlatPlanLaw" (342 : Nat) ({ cls := "FlatPlan", name := "undoCount", desc := "()I" } : Jvm.MethodName)) ∈ gtbl := gt4 (i := 195) rfl rfl
theorem q_916 : (Cond.instanceMethod ({ cls := "FlatPlan", name := "undoCount", desc := "()I" } : Jvm.MethodName)) ∈ gtbl := gt4 (i := 196) rfl rfl
theorem q_917 : (Cond.selects "FlatPlan" ({ cls := "FlatPlan", name := "undoCount", desc := "()I" } : Jvm.MethodName) ({ cls := "FlatPlan", name := "undoCount", desc := "()I" } : Jvm.MethodName)) ∈ gtbl := gt4 (i := 197) rfl rfl
theorem q_918 : (Cond.code ({ cls := "FlatPlan", name := "undoCount", desc := "()I" } : Jvm.MethodName) prog_1_method_62_code (1 : Nat) (Option.some FieldType.int)) ∈ gtbl := gt4 (i := 198) rfl rfl
theorem q_919 : (Cond.methodLink "FlatPlanLaw" (157 : Nat) ({ cls := "FlatPlanLaw", name := "addAd", desc := "(LFlatPlan;IIII[J)I" } : Jvm.MethodName)) ∈ gtbl := gt4 (i := 199) rfl rfl
theorem q_920 : (Cond.static ({ cls := "FlatPlanLaw", name := "addAd", desc := "(LFlatPlan;IIII[J)I" } : Jvm.MethodName)) ∈ gtbl := gt4 (i := 200) rfl rfl
theorem q_921 : (Cond.codeWith ({ cls := "FlatPlanLaw", name := "addAd", desc := "(LFlatPlan;IIII[J)I" } : Jvm.MethodName) method_3_code (7 : Nat) (Option.some FieldType.int) [((0 : Nat), (14 : Nat), (17 : Nat), (13 : Nat))]) ∈ gtbl := gt4 (i := 201) rfl rfl
theorem q_922 : (Cond.classLink "FlatPlanLaw" (13 : Nat) "java/lang/IllegalArgumentException") ∈ gtbl := gt4 (i := 202) rfl rfl
theorem q_923 : (Cond.methodLink "FlatPlanLaw" (7 : Nat) ({ cls := "FlatPlan", name := "addAd", desc := "(IIII)I" } : Jvm.MethodName)) ∈ gtbl := gt4 (i := 203) rfl rfl
theorem q_924 : (Cond.instanceMethod ({ cls := "FlatPlan", name := "addAd", desc := "(IIII)I" } : Jvm.MethodName)) ∈ gtbl := gt4 (i := 204) rfl rfl
theorem q_925 : (Cond.selects "FlatPlan" ({ cls := "FlatPlan", name := "addAd", desc := "(IIII)I" } : Jvm.MethodName) ({ cls := "FlatPlan", name := "addAd", desc := "(IIII)I" } : Jvm.MethodName)) ∈ gtbl := gt4 (i := 205) rfl rfl
theorem q_926 : (Cond.code ({ cls := "FlatPlan", name := "addAd", desc := "(IIII)I" } : Jvm.MethodName) prog_1_method_9_code (6 : Nat) (Option.some FieldType.int)) ∈ gtbl := gt4 (i := 206) rfl rfl
theorem q_927 : (Cond.methodLink "FlatPlan" (141 : Nat) ({ cls := "FlatPlan", name := "isSize", desc := "(I)Z" } : Jvm.MethodName)) ∈ gtbl := gt4 (i := 207) rfl rfl
theorem q_928 : (Cond.methodLink "FlatPlan" (145 : Nat) ({ cls := "FlatPlan", name := "isPrice", desc := "(I)Z" } : Jvm.MethodName)) ∈ gtbl := gt4 (i := 208) rfl rfl
theorem q_929 : (Cond.static ({ cls := "FlatPlan", name := "isPrice", desc := "(I)Z" } : Jvm.MethodName)) ∈ gtbl := gt4 (i := 209) rfl rfl
theorem q_930 : (Cond.code ({ cls := "FlatPlan", name := "isPrice", desc := "(I)Z" } : Jvm.MethodName) prog_1_method_70_code (1 : Nat) (Option.some FieldType.boolean)) ∈ gtbl := gt4 (i := 210) rfl rfl
theorem q_931 : (Cond.classLink "FlatPlan" (148 : Nat) "java/lang/IllegalArgumentException") ∈ gtbl := gt4 (i := 211) rfl rfl
theorem q_932 : (Cond.instantiable "java/lang/IllegalArgumentException" (6 : Nat)) ∈ gtbl := gt4 (i := 212) rfl rfl
theorem q_940 : (Cond.selects "java/lang/IllegalArgumentException" ({ cls := "java/lang/Throwable", name := "fillInStackTrace", desc := "(I)Ljava/lang/Throwable;" } : Jvm.MethodName) ({ cls := "java/lang/Throwable", name := "fillInStackTrace", desc := "(I)Ljava/lang/Throwable;" } : Jvm.MethodName)) ∈ gtbl := gt4 (i := 220) rfl rfl
theorem q_941 : (Cond.selects "java/lang/IllegalArgumentException" ({ cls := "java/lang/Throwable", name := "fillInStackTrace", desc := "()Ljava/lang/Throwable;" } : Jvm.MethodName) ({ cls := "java/lang/Throwable", name := "fillInStackTrace", desc := "()Ljava/lang/Throwable;" } : Jvm.MethodName)) ∈ gtbl := gt4 (i := 221) rfl rfl
theorem q_942 : (Cond.lays "java/lang/IllegalArgumentException" "java/lang/Throwable" "cause" "Ljava/lang/Throwable;") ∈ gtbl := gt4 (i := 222) rfl rfl
theorem q_943 : (Cond.lays "java/lang/Throwable" "java/lang/Throwable" "cause" "Ljava/lang/Throwable;") ∈ gtbl := gt4 (i := 223) rfl rfl
theorem q_944 : (Cond.lays "java/lang/IllegalArgumentException" "java/lang/Throwable" "stackTrace" "[Ljava/lang/StackTraceElement;") ∈ gtbl := gt4 (i := 224) rfl rfl
theorem q_945 : (Cond.lays "java/lang/Throwable" "java/lang/Throwable" "stackTrace" "[Ljava/lang/StackTraceElement;") ∈ gtbl := gt4 (i := 225) rfl rfl
theorem q_946 : (Cond.lays "java/lang/IllegalArgumentException" "java/lang/Throwable" "suppressedExceptions" "Ljava/util/List;") ∈ gtbl := gt4 (i := 226) rfl rfl
theorem q_947 : (Cond.lays "java/lang/Throwable" "java/lang/Throwable" "suppressedExceptions" "Ljava/util/List;") ∈ gtbl := gt4 (i := 227) rfl rfl
theorem q_948 : (Cond.lays "java/lang/IllegalArgumentException" "java/lang/Throwable" "detailMessage" "Ljava/lang/String;") ∈ gtbl := gt4 (i := 228) rfl rfl
theorem q_949 : (Cond.lays "java/lang/Throwable" "java/lang/Throwable" "detailMessage" "Ljava/lang/String;") ∈ gtbl := gt4 (i := 229) rfl rfl
theorem q_950 : (Cond.lays "java/lang/IllegalArgumentException" "java/lang/Throwable" "backtrace" "Ljava/lang/Object;") ∈ gtbl := gt4 (i := 230) rfl rfl
theorem q_951 : (Cond.lays "java/lang/Throwable" "java/lang/Throwable" "backtrace" "Ljava/lang/Object;") ∈ gtbl := gt4 (i := 231) rfl rfl
theorem q_952 : (Cond.fieldLink "java/lang/Throwable" (198 : Nat) "java/lang/Throwable" "backtrace" "Ljava/lang/Object;") ∈ gtbl := gt4 (i := 232) rfl rfl
theorem q_954 : (Cond.instanceMethod ({ cls := "java/lang/Throwable", name := "<init>", desc := "()V" } : Jvm.MethodName)) ∈ gtbl := gt4 (i := 234) rfl rfl
theorem q_955 : (Cond.code ({ cls := "java/lang/Throwable", name := "<init>", desc := "()V" } : Jvm.MethodName) prog_26_method_1_code (1 : Nat) (Option.none : Option FieldType)) ∈ gtbl := gt4 (i := 235) rfl rfl
theorem q_956 : (Cond.methodLink "java/lang/Throwable" (1 : Nat) ({ cls := "java/lang/Object", name := "<init>", desc := "()V" } : Jvm.MethodName)) ∈ gtbl := gt4 (i := 236) rfl rfl
theorem q_957 : (Cond.fieldLink "java/lang/Throwable" (13 : Nat) "java/lang/Throwable" "UNASSIGNED_STACK" "[Ljava/lang/StackTraceElement;") ∈ gtbl := gt4 (i := 237) rfl rfl
theorem q_959 : (Cond.fieldLink "java/lang/Throwable" (20 : Nat) "java/lang/Throwable" "SUPPRESSED_SENTINEL" "Ljava/util/List;") ∈ gtbl := gt4 (i := 239) rfl rfl
theorem q_961 : (Cond.methodLink "java/lang/Throwable" (27 : Nat) ({ cls := "java/lang/Throwable", name := "fillInStackTrace", desc := "()Ljava/lang/Throwable;" } : Jvm.MethodName)) ∈ gtbl := gt5 (i := 1) rfl rfl
theorem q_962 : (Cond.instanceMethod ({ cls := "java/lang/Throwable", name := "fillInStackTrace", desc := "()Ljava/lang/Throwable;" } : Jvm.MethodName)) ∈ gtbl := gt5 (i := 2) rfl rfl
theorem q_964 : (Cond.selects "java/lang/ArithmeticException" ({ cls := "java/lang/Throwable", name := "fillInStackTrace", desc := "()Ljava/lang/Throwable;" } : Jvm.MethodName) ({ cls := "java/lang/Throwable", name := "fillInStackTrace", desc := "()Ljava/lang/Throwable;" } : Jvm.MethodName)) ∈ gtbl := gt5 (i := 4) rfl rfl
theorem q_965 : (Cond.selects "java/lang/ArrayIndexOutOfBoundsException" ({ cls := "java/lang/Throwable", name := "fillInStackTrace", desc := "()Ljava/lang/Throwable;" } : Jvm.MethodName) ({ cls := "java/lang/Throwable", name := "fillInStackTrace", desc := "()Ljava/lang/Throwable;" } : Jvm.MethodName)) ∈ gtbl := gt5 (i := 5) rfl rfl
theorem q_966 : (Cond.selects "java/lang/IndexOutOfBoundsException" ({ cls := "java/lang/Throwable", name := "fillInStackTrace", desc := "()Ljava/lang/Throwable;" } : Jvm.MethodName) ({ cls := "java/lang/Throwable", name := "fillInStackTrace", desc := "()Ljava/lang/Throwable;" } : Jvm.MethodName)) ∈ gtbl := gt5 (i := 6) rfl rfl
theorem q_968 : (Cond.methodLink "java/lang/Throwable" (202 : Nat) ({ cls := "java/lang/Throwable", name := "fillInStackTrace", desc := "(I)Ljava/lang/Throwable;" } : Jvm.MethodName)) ∈ gtbl := gt5 (i := 8) rfl rfl
theorem q_970 : (Cond.instanceMethod ({ cls := "java/lang/Throwable", name := "fillInStackTrace", desc := "(I)Ljava/lang/Throwable;" } : Jvm.MethodName)) ∈ gtbl := gt5 (i := 10) rfl rfl
theorem q_971 : (Cond.instantiable "java/lang/Throwable" (6 : Nat)) ∈ gtbl := gt5 (i := 11) rfl rfl
theorem q_972 : (Cond.native ({ cls := "java/lang/Throwable", name := "fillInStackTrace", desc := "(I)Ljava/lang/Throwable;" } : Jvm.MethodName)) ∈ gtbl := gt5 (i := 12) rfl rfl
theorem q_974 : (Cond.methodLink "FlatPlan" (152 : Nat) ({ cls := "java/lang/IllegalArgumentException", name := "<init>", desc := "(Ljava/lang/String;)V" } : Jvm.MethodName)) ∈ gtbl := gt5 (i := 14) rfl rfl
theorem q_975 : (Cond.instanceMethod ({ cls := "java/lang/IllegalArgumentException", name := "<init>", desc := "(Ljava/lang/String;)V" } : Jvm.MethodName)) ∈ gtbl := gt5 (i := 15) rfl rfl
theorem q_976 : (Cond.code ({ cls := "java/lang/IllegalArgumentException", name := "<init>", desc := "(Ljava/lang/String;)V" } : Jvm.MethodName) prog_17_method_2_code (2 : Nat) (Option.none : Option FieldType)) ∈ gtbl := gt5 (i := 16) rfl rfl
theorem q_977 : (Cond.methodLink "java/lang/IllegalArgumentException" (7 : Nat) ({ cls := "java/lang/RuntimeException", name := "<init>", desc := "(Ljava/lang/String;)V" } : Jvm.MethodName)) ∈ gtbl := gt5 (i := 17) rfl rfl
theorem q_978 : (Cond.instanceMethod ({ cls := "java/lang/RuntimeException", name := "<init>", desc := "(Ljava/lang/String;)V" } : Jvm.MethodName)) ∈ gtbl := gt5 (i := 18) rfl rfl
theorem q_979 : (Cond.code ({ cls := "java/lang/RuntimeException", name := "<init>", desc := "(Ljava/lang/String;)V" } : Jvm.MethodName) prog_21_method_2_code (2 : Nat) (Option.none : Option FieldType)) ∈ gtbl := gt5 (i := 19) rfl rfl
theorem q_980 : (Cond.methodLink "java/lang/RuntimeException" (7 : Nat) ({ cls := "java/lang/Exception", name := "<init>", desc := "(Ljava/lang/String;)V" } : Jvm.MethodName)) ∈ gtbl := gt5 (i := 20) rfl rfl
theorem q_981 : (Cond.instanceMethod ({ cls := "java/lang/Exception", name := "<init>", desc := "(Ljava/lang/String;)V" } : Jvm.MethodName)) ∈ gtbl := gt5 (i := 21) rfl rfl
theorem q_982 : (Cond.code ({ cls := "java/lang/Exception", name := "<init>", desc := "(Ljava/lang/String;)V" } : Jvm.MethodName) prog_16_method_2_code (2 : Nat) (Option.none : Option FieldType)) ∈ gtbl := gt5 (i := 22) rfl rfl
theorem q_983 : (Cond.methodLink "java/lang/Exception" (7 : Nat) ({ cls := "java/lang/Throwable", name := "<init>", desc := "(Ljava/lang/String;)V" } : Jvm.MethodName)) ∈ gtbl := gt5 (i := 23) rfl rfl
theorem q_984 : (Cond.instanceMethod ({ cls := "java/lang/Throwable", name := "<init>", desc := "(Ljava/lang/String;)V" } : Jvm.MethodName)) ∈ gtbl := gt5 (i := 24) rfl rfl
theorem q_985 : (Cond.code ({ cls := "java/lang/Throwable", name := "<init>", desc := "(Ljava/lang/String;)V" } : Jvm.MethodName) prog_26_method_2_code (2 : Nat) (Option.none : Option FieldType)) ∈ gtbl := gt5 (i := 25) rfl rfl
theorem q_986 : (Cond.fieldLink "java/lang/Throwable" (198 : Nat) "java/lang/Throwable" "backtrace" "Ljava/lang/Object;") ∈ gtbl := gt5 (i := 26) rfl rfl
theorem q_987 : (Cond.fieldLink "java/lang/Throwable" (31 : Nat) "java/lang/Throwable" "detailMessage" "Ljava/lang/String;") ∈ gtbl := gt5 (i := 27) rfl rfl
theorem q_988 : (Cond.fieldLink "java/lang/Throwable" (7 : Nat) "java/lang/Throwable" "cause" "Ljava/lang/Throwable;") ∈ gtbl := gt5 (i := 28) rfl rfl
theorem q_989 : (Cond.fieldLink "java/lang/Throwable" (17 : Nat) "java/lang/Throwable" "stackTrace" "[Ljava/lang/StackTraceElement;") ∈ gtbl := gt5 (i := 29) rfl rfl
theorem q_990 : (Cond.fieldLink "java/lang/Throwable" (24 : Nat) "java/lang/Throwable" "suppressedExceptions" "Ljava/util/List;") ∈ gtbl := gt5 (i := 30) rfl rfl
theorem q_995 : (Cond.lays "java/lang/IllegalArgumentException" "java/lang/Throwable" "depth" "I") ∈ gtbl := gt5 (i := 35) rfl rfl
theorem q_999 : (Cond.methodLink "FlatPlan" (158 : Nat) ({ cls := "FlatPlan$Ads", name := "add", desc := "(IIII)I" } : Jvm.MethodName)) ∈ gtbl := gt5 (i := 39) rfl rfl
theorem q_1000 : (Cond.methodLink "FlatPlanLaw" (166 : Nat) ({ cls := "FlatPlanLaw", name := "setAd", desc := "(LFlatPlan;IZI[J)I" } : Jvm.MethodName)) ∈ gtbl := gt5 (i := 40) rfl rfl
theorem q_1001 : (Cond.static ({ cls := "FlatPlanLaw", name := "setAd", desc := "(LFlatPlan;IZI[J)I" } : Jvm.MethodName)) ∈ gtbl := gt5 (i := 41) rfl rfl
theorem q_1002 : (Cond.codeWith ({ cls := "FlatPlanLaw", name := "setAd", desc := "(LFlatPlan;IZI[J)I" } : Jvm.MethodName) method_4_code (6 : Nat) (Option.some FieldType.int) [((0 : Nat), (19 : Nat), (22 : Nat), (19 : Nat)), ((0 : Nat), (19 : Nat), (26 : Nat), (13 : Nat))]) ∈ gtbl := gt5 (i := 42) rfl rfl
theorem q_1003 : (Cond.classLink "FlatPlanLaw" (19 : Nat) "java/lang/IndexOutOfBoundsException") ∈ gtbl := gt5 (i := 43) rfl rfl
theorem q_1004 : (Cond.instantiable "java/lang/ArrayIndexOutOfBoundsException" (6 : Nat)) ∈ gtbl := gt5 (i := 44) rfl rfl
theorem q_1005 : (Cond.instanceMethod ({ cls := "java/lang/ArrayIndexOutOfBoundsException", name := "<init>", desc := "(Ljava/lang/String;)V" } : Jvm.MethodName)) ∈ gtbl := gt5 (i := 45) rfl rfl
theorem q_1006 : (Cond.code ({ cls := "java/lang/ArrayIndexOutOfBoundsException", name := "<init>", desc := "(Ljava/lang/String;)V" } : Jvm.MethodName) prog_15_method_2_code (2 : Nat) (Option.none : Option FieldType)) ∈ gtbl := gt5 (i := 46) rfl rfl
theorem q_1007 : (Cond.methodLink "java/lang/ArrayIndexOutOfBoundsException" (7 : Nat) ({ cls := "java/lang/IndexOutOfBoundsException", name := "<init>", desc := "(Ljava/lang/String;)V" } : Jvm.MethodName)) ∈ gtbl := gt5 (i := 47) rfl rfl
theorem q_1008 : (Cond.instanceMethod ({ cls := "java/lang/IndexOutOfBoundsException", name := "<init>", desc := "(Ljava/lang/String;)V" } : Jvm.MethodName)) ∈ gtbl := gt5 (i := 48) rfl rfl
theorem q_1009 : (Cond.code ({ cls := "java/lang/IndexOutOfBoundsException", name := "<init>", desc := "(Ljava/lang/String;)V" } : Jvm.MethodName) prog_18_method_2_code (2 : Nat) (Option.none : Option FieldType)) ∈ gtbl := gt5 (i := 49) rfl rfl
theorem q_1010 : (Cond.methodLink "java/lang/IndexOutOfBoundsException" (7 : Nat) ({ cls := "java/lang/RuntimeException", name := "<init>", desc := "(Ljava/lang/String;)V" } : Jvm.MethodName)) ∈ gtbl := gt5 (i := 50) rfl rfl
theorem q_1011 : (Cond.lays "java/lang/ArrayIndexOutOfBoundsException" "java/lang/Throwable" "backtrace" "Ljava/lang/Object;") ∈ gtbl := gt5 (i := 51) rfl rfl
theorem q_1012 : (Cond.lays "java/lang/ArrayIndexOutOfBoundsException" "java/lang/Throwable" "detailMessage" "Ljava/lang/String;") ∈ gtbl := gt5 (i := 52) rfl rfl
theorem q_1013 : (Cond.lays "java/lang/ArrayIndexOutOfBoundsException" "java/lang/Throwable" "cause" "Ljava/lang/Throwable;") ∈ gtbl := gt5 (i := 53) rfl rfl
theorem q_1014 : (Cond.lays "java/lang/ArrayIndexOutOfBoundsException" "java/lang/Throwable" "stackTrace" "[Ljava/lang/StackTraceElement;") ∈ gtbl := gt5 (i := 54) rfl rfl
theorem q_1015 : (Cond.lays "java/lang/ArrayIndexOutOfBoundsException" "java/lang/Throwable" "depth" "I") ∈ gtbl := gt5 (i := 55) rfl rfl
theorem q_1016 : (Cond.lays "java/lang/ArrayIndexOutOfBoundsException" "java/lang/Throwable" "suppressedExceptions" "Ljava/util/List;") ∈ gtbl := gt5 (i := 56) rfl rfl
theorem q_1021 : (Cond.selects "java/lang/ArrayIndexOutOfBoundsException" ({ cls := "java/lang/Throwable", name := "fillInStackTrace", desc := "(I)Ljava/lang/Throwable;" } : Jvm.MethodName) ({ cls := "java/lang/Throwable", name := "fillInStackTrace", desc := "(I)Ljava/lang/Throwable;" } : Jvm.MethodName)) ∈ gtbl := gt5 (i := 61) rfl rfl
theorem q_1022 : (Cond.instantiable "java/lang/String" (4 : Nat)) ∈ gtbl := gt5 (i := 62) rfl rfl
theorem q_1023 : (Cond.laysFinal "java/lang/String" "java/lang/String" "value" "[B") ∈ gtbl := gt5 (i := 63) rfl rfl
theorem q_1025 : (Cond.laysFinal "java/lang/String" "java/lang/String" "coder" "B") ∈ gtbl := gt5 (i := 65) rfl rfl
theorem q_1027 : (Cond.methodLink "FlatPlanLaw" (15 : Nat) ({ cls := "FlatPlan", name := "setAd", desc := "(IZI)Z" } : Jvm.MethodName)) ∈ gtbl := gt5 (i := 67) rfl rfl
theorem q_1028 : (Cond.instanceMethod ({ cls := "FlatPlan", name := "setAd", desc := "(IZI)Z" } : Jvm.MethodName)) ∈ gtbl := gt5 (i := 68) rfl rfl
theorem q_1029 : (Cond.selects "FlatPlan" ({ cls := "FlatPlan", name := "setAd", desc := "(IZI)Z" } : Jvm.MethodName) ({ cls := "FlatPlan", name := "setAd", desc := "(IZI)Z" } : Jvm.MethodName)) ∈ gtbl := gt5 (i := 69) rfl rfl
theorem q_1030 : (Cond.code ({ cls := "FlatPlan", name := "setAd", desc := "(IZI)Z" } : Jvm.MethodName) prog_1_method_10_code (5 : Nat) (Option.some FieldType.boolean)) ∈ gtbl := gt5 (i := 70) rfl rfl
theorem q_1031 : (Cond.methodLink "FlatPlan" (162 : Nat) ({ cls := "FlatPlan", name := "needAd", desc := "(I)V" } : Jvm.MethodName)) ∈ gtbl := gt5 (i := 71) rfl rfl
theorem q_1033 : (Cond.instanceMethod ({ cls := "FlatPlan", name := "needAd", desc := "(I)V" } : Jvm.MethodName)) ∈ gtbl := gt5 (i := 73) rfl rfl
theorem q_1034 : (Cond.code ({ cls := "FlatPlan", name := "needAd", desc := "(I)V" } : Jvm.MethodName) prog_1_method_63_code (2 : Nat) (Option.none : Option FieldType)) ∈ gtbl := gt5 (i := 74) rfl rfl
theorem q_1035 : (Cond.classLink "FlatPlan" (363 : Nat) "java/lang/IndexOutOfBoundsException") ∈ gtbl := gt5 (i := 75) rfl rfl
theorem q_1036 : (Cond.instantiable "java/lang/IndexOutOfBoundsException" (6 : Nat)) ∈ gtbl := gt5 (i := 76) rfl rfl
theorem q_1038 : (Cond.selects "java/lang/IndexOutOfBoundsException" ({ cls := "java/lang/Throwable", name := "fillInStackTrace", desc := "(I)Ljava/lang/Throwable;" } : Jvm.MethodName) ({ cls := "java/lang/Throwable", name := "fillInStackTrace", desc := "(I)Ljava/lang/Throwable;" } : Jvm.MethodName)) ∈ gtbl := gt5 (i := 78) rfl rfl
theorem q_1039 : (Cond.lays "java/lang/IndexOutOfBoundsException" "java/lang/Throwable" "cause" "Ljava/lang/Throwable;") ∈ gtbl := gt5 (i := 79) rfl rfl
theorem q_1040 : (Cond.lays "java/lang/IndexOutOfBoundsException" "java/lang/Throwable" "stackTrace" "[Ljava/lang/StackTraceElement;") ∈ gtbl := gt5 (i := 80) rfl rfl
theorem q_1041 : (Cond.lays "java/lang/IndexOutOfBoundsException" "java/lang/Throwable" "suppressedExceptions" "Ljava/util/List;") ∈ gtbl := gt5 (i := 81) rfl rfl
theorem q_1042 : (Cond.lays "java/lang/IndexOutOfBoundsException" "java/lang/Throwable" "detailMessage" "Ljava/lang/String;") ∈ gtbl := gt5 (i := 82) rfl rfl
theorem q_1043 : (Cond.lays "java/lang/IndexOutOfBoundsException" "java/lang/Throwable" "backtrace" "Ljava/lang/Object;") ∈ gtbl := gt5 (i := 83) rfl rfl
theorem q_1045 : (Cond.methodLink "FlatPlan" (367 : Nat) ({ cls := "java/lang/IndexOutOfBoundsException", name := "<init>", desc := "(Ljava/lang/String;)V" } : Jvm.MethodName)) ∈ gtbl := gt5 (i := 85) rfl rfl
theorem q_1046 : (Cond.lays "java/lang/IndexOutOfBoundsException" "java/lang/Throwable" "depth" "I") ∈ gtbl := gt5 (i := 86) rfl rfl
theorem q_1049 : (Cond.methodLink "FlatPlanLaw" (170 : Nat) ({ cls := "FlatPlanLaw", name := "setPrice", desc := "(LFlatPlan;II[J)I" } : Jvm.MethodName)) ∈ gtbl := gt5 (i := 89) rfl rfl
theorem q_1050 : (Cond.static ({ cls := "FlatPlanLaw", name := "setPrice", desc := "(LFlatPlan;II[J)I" } : Jvm.MethodName)) ∈ gtbl := gt5 (i := 90) rfl rfl
theorem q_1051 : (Cond.codeWith ({ cls := "FlatPlanLaw", name := "setPrice", desc := "(LFlatPlan;II[J)I" } : Jvm.MethodName) method_5_code (5 : Nat) (Option.some FieldType.int) [((0 : Nat), (10 : Nat), (13 : Nat), (19 : Nat)), ((0 : Nat), (10 : Nat), (17 : Nat), (13 : Nat))]) ∈ gtbl := gt5 (i := 91) rfl rfl
theorem q_1052 : (Cond.methodLink "FlatPlanLaw" (21 : Nat) ({ cls := "FlatPlan", name := "setPrice", desc := "(II)I" } : Jvm.MethodName)) ∈ gtbl := gt5 (i := 92) rfl rfl
theorem q_1053 : (Cond.instanceMethod ({ cls := "FlatPlan", name := "setPrice", desc := "(II)I" } : Jvm.MethodName)) ∈ gtbl := gt5 (i := 93) rfl rfl
theorem q_1054 : (Cond.selects "FlatPlan" ({ cls := "FlatPlan", name := "setPrice", desc := "(II)I" } : Jvm.MethodName) ({ cls := "FlatPlan", name := "setPrice", desc := "(II)I" } : Jvm.MethodName)) ∈ gtbl := gt5 (i := 94) rfl rfl
theorem q_1055 : (Cond.code ({ cls := "FlatPlan", name := "setPrice", desc := "(II)I" } : Jvm.MethodName) prog_1_method_11_code (4 : Nat) (Option.some FieldType.int)) ∈ gtbl := gt5 (i := 95) rfl rfl
theorem q_1057 : (Cond.methodLink "FlatPlanLaw" (174 : Nat) ({ cls := "FlatPlanLaw", name := "ad", desc := "(LFlatPlan;II[J)I" } : Jvm.MethodName)) ∈ gtbl := gt5 (i := 97) rfl rfl
theorem q_1058 : (Cond.static ({ cls := "FlatPlanLaw", name := "ad", desc := "(LFlatPlan;II[J)I" } : Jvm.MethodName)) ∈ gtbl := gt5 (i := 98) rfl rfl
theorem q_1059 : (Cond.codeWith ({ cls := "FlatPlanLaw", name := "ad", desc := "(LFlatPlan;II[J)I" } : Jvm.MethodName) method_6_code (5 : Nat) (Option.some FieldType.int) [((0 : Nat), (10 : Nat), (13 : Nat), (19 : Nat))]) ∈ gtbl := gt5 (i := 99) rfl rfl
theorem q_1060 : (Cond.methodLink "FlatPlanLaw" (25 : Nat) ({ cls := "FlatPlan", name := "ad", desc := "(II)I" } : Jvm.MethodName)) ∈ gtbl := gt5 (i := 100) rfl rfl
theorem q_1061 : (Cond.instanceMethod ({ cls := "FlatPlan", name := "ad", desc := "(II)I" } : Jvm.MethodName)) ∈ gtbl := gt5 (i := 101) rfl rfl
theorem q_1062 : (Cond.selects "FlatPlan" ({ cls := "FlatPlan", name := "ad", desc := "(II)I" } : Jvm.MethodName) ({ cls := "FlatPlan", name := "ad", desc := "(II)I" } : Jvm.MethodName)) ∈ gtbl := gt5 (i := 102) rfl rfl
theorem q_1063 : (Cond.code ({ cls := "FlatPlan", name := "ad", desc := "(II)I" } : Jvm.MethodName) prog_1_method_12_code (4 : Nat) (Option.some FieldType.int)) ∈ gtbl := gt5 (i := 103) rfl rfl
theorem q_1064 : (Cond.methodLink "FlatPlan" (185 : Nat) ({ cls := "FlatPlan", name := "orNone", desc := "(I)I" } : Jvm.MethodName)) ∈ gtbl := gt5 (i := 104) rfl rfl
theorem q_1065 : (Cond.static ({ cls := "FlatPlan", name := "orNone", desc := "(I)I" } : Jvm.MethodName)) ∈ gtbl := gt5 (i := 105) rfl rfl
theorem q_1066 : (Cond.code ({ cls := "FlatPlan", name := "orNone", desc := "(I)I" } : Jvm.MethodName) prog_1_method_71_code (1 : Nat) (Option.some FieldType.int)) ∈ gtbl := gt5 (i := 106) rfl rfl
theorem q_1067 : (Cond.methodLink "FlatPlan" (189 : Nat) ({ cls := "FlatPlan$Plan", name := "isLate", desc := "(I)Z" } : Jvm.MethodName)) ∈ gtbl := gt5 (i := 107) rfl rfl
theorem q_1068 : (Cond.methodLink "FlatPlanLaw" (177 : Nat) ({ cls := "FlatPlanLaw", name := "story", desc := "(LFlatPlan;II[J)I" } : Jvm.MethodName)) ∈ gtbl := gt5 (i := 108) rfl rfl
theorem q_1069 : (Cond.static ({ cls := "FlatPlanLaw", name := "story", desc := "(LFlatPlan;II[J)I" } : Jvm.MethodName)) ∈ gtbl := gt5 (i := 109) rfl rfl
theorem q_1070 : (Cond.codeWith ({ cls := "FlatPlanLaw", name := "story", desc := "(LFlatPlan;II[J)I" } : Jvm.MethodName) method_7_code (5 : Nat) (Option.some FieldType.int) [((0 : Nat), (10 : Nat), (13 : Nat), (19 : Nat))]) ∈ gtbl := gt5 (i := 110) rfl rfl
theorem q_1071 : (Cond.methodLink "FlatPlanLaw" (28 : Nat) ({ cls := "FlatPlan", name := "story", desc := "(II)I" } : Jvm.MethodName)) ∈ gtbl := gt5 (i := 111) rfl rfl
theorem q_1072 : (Cond.instanceMethod ({ cls := "FlatPlan", name := "story", desc := "(II)I" } : Jvm.MethodName)) ∈ gtbl := gt5 (i := 112) rfl rfl
theorem q_1073 : (Cond.selects "FlatPlan" ({ cls := "FlatPlan", name := "story", desc := "(II)I" } : Jvm.MethodName) ({ cls := "FlatPlan", name := "story", desc := "(II)I" } : Jvm.MethodName)) ∈ gtbl := gt5 (i := 113) rfl rfl
theorem q_1074 : (Cond.code ({ cls := "FlatPlan", name := "story", desc := "(II)I" } : Jvm.MethodName) prog_1_method_13_code (4 : Nat) (Option.some FieldType.int)) ∈ gtbl := gt5 (i := 114) rfl rfl
theorem q_1075 : (Cond.methodLink "FlatPlan" (192 : Nat) ({ cls := "FlatPlan", name := "needStory", desc := "(I)V" } : Jvm.MethodName)) ∈ gtbl := gt5 (i := 115) rfl rfl
theorem q_1077 : (Cond.instanceMethod ({ cls := "FlatPlan", name := "needStory", desc := "(I)V" } : Jvm.MethodName)) ∈ gtbl := gt5 (i := 117) rfl rfl
theorem q_1078 : (Cond.code ({ cls := "FlatPlan", name := "needStory", desc := "(I)V" } : Jvm.MethodName) prog_1_method_64_code (2 : Nat) (Option.none : Option FieldType)) ∈ gtbl := gt5 (i := 118) rfl rfl
theorem q_1080 : (Cond.methodLink "FlatPlanLaw" (180 : Nat) ({ cls := "FlatPlanLaw", name := "standby", desc := "(LFlatPlan;II[J)I" } : Jvm.MethodName)) ∈ gtbl := gt5 (i := 120) rfl rfl
theorem q_1081 : (Cond.static ({ cls := "FlatPlanLaw", name := "standby", desc := "(LFlatPlan;II[J)I" } : Jvm.MethodName)) ∈ gtbl := gt5 (i := 121) rfl rfl
theorem q_1082 : (Cond.codeWith ({ cls := "FlatPlanLaw", name := "standby", desc := "(LFlatPlan;II[J)I" } : Jvm.MethodName) method_8_code (5 : Nat) (Option.some FieldType.int) [((0 : Nat), (10 : Nat), (13 : Nat), (19 : Nat))]) ∈ gtbl := gt5 (i := 122) rfl rfl
theorem q_1083 : (Cond.methodLink "FlatPlanLaw" (31 : Nat) ({ cls := "FlatPlan", name := "standby", desc := "(II)I" } : Jvm.MethodName)) ∈ gtbl := gt5 (i := 123) rfl rfl
theorem q_1084 : (Cond.instanceMethod ({ cls := "FlatPlan", name := "standby", desc := "(II)I" } : Jvm.MethodName)) ∈ gtbl := gt5 (i := 124) rfl rfl
theorem q_1085 : (Cond.selects "FlatPlan" ({ cls := "FlatPlan", name := "standby", desc := "(II)I" } : Jvm.MethodName) ({ cls := "FlatPlan", name := "standby", desc := "(II)I" } : Jvm.MethodName)) ∈ gtbl := gt5 (i := 125) rfl rfl
theorem q_1086 : (Cond.code ({ cls := "FlatPlan", name := "standby", desc := "(II)I" } : Jvm.MethodName) prog_1_method_14_code (4 : Nat) (Option.some FieldType.int)) ∈ gtbl := gt5 (i := 126) rfl rfl
theorem q_1087 : (Cond.methodLink "FlatPlan" (200 : Nat) ({ cls := "FlatPlan", name := "needStandby", desc := "(I)V" } : Jvm.MethodName)) ∈ gtbl := gt5 (i := 127) rfl rfl
theorem q_1089 : (Cond.instanceMethod ({ cls := "FlatPlan", name := "needStandby", desc := "(I)V" } : Jvm.MethodName)) ∈ gtbl := gt5 (i := 129) rfl rfl
theorem q_1090 : (Cond.code ({ cls := "FlatPlan", name := "needStandby", desc := "(I)V" } : Jvm.MethodName) prog_1_method_65_code (2 : Nat) (Option.none : Option FieldType)) ∈ gtbl := gt5 (i := 130) rfl rfl
theorem q_1092 : (Cond.methodLink "FlatPlanLaw" (183 : Nat) ({ cls := "FlatPlanLaw", name := "page", desc := "(LFlatPlan;II[J)I" } : Jvm.MethodName)) ∈ gtbl := gt5 (i := 132) rfl rfl
theorem q_1093 : (Cond.static ({ cls := "FlatPlanLaw", name := "page", desc := "(LFlatPlan;II[J)I" } : Jvm.MethodName)) ∈ gtbl := gt5 (i := 133) rfl rfl
theorem q_1094 : (Cond.codeWith ({ cls := "FlatPlanLaw", name := "page", desc := "(LFlatPlan;II[J)I" } : Jvm.MethodName) method_9_code (5 : Nat) (Option.some FieldType.int) [((0 : Nat), (10 : Nat), (13 : Nat), (19 : Nat))]) ∈ gtbl := gt5 (i := 134) rfl rfl
theorem q_1095 : (Cond.methodLink "FlatPlanLaw" (34 : Nat) ({ cls := "FlatPlan", name := "page", desc := "(II)I" } : Jvm.MethodName)) ∈ gtbl := gt5 (i := 135) rfl rfl
theorem q_1096 : (Cond.instanceMethod ({ cls := "FlatPlan", name := "page", desc := "(II)I" } : Jvm.MethodName)) ∈ gtbl := gt5 (i := 136) rfl rfl
theorem q_1097 : (Cond.selects "FlatPlan" ({ cls := "FlatPlan", name := "page", desc := "(II)I" } : Jvm.MethodName) ({ cls := "FlatPlan", name := "page", desc := "(II)I" } : Jvm.MethodName)) ∈ gtbl := gt5 (i := 137) rfl rfl
theorem q_1098 : (Cond.code ({ cls := "FlatPlan", name := "page", desc := "(II)I" } : Jvm.MethodName) prog_1_method_15_code (3 : Nat) (Option.some FieldType.int)) ∈ gtbl := gt5 (i := 138) rfl rfl
theorem q_1099 : (Cond.methodLink "FlatPlan" (204 : Nat) ({ cls := "FlatPlan", name := "needPage", desc := "(I)V" } : Jvm.MethodName)) ∈ gtbl := gt5 (i := 139) rfl rfl
theorem q_1101 : (Cond.instanceMethod ({ cls := "FlatPlan", name := "needPage", desc := "(I)V" } : Jvm.MethodName)) ∈ gtbl := gt5 (i := 141) rfl rfl
theorem q_1102 : (Cond.code ({ cls := "FlatPlan", name := "needPage", desc := "(I)V" } : Jvm.MethodName) prog_1_method_66_code (2 : Nat) (Option.none : Option FieldType)) ∈ gtbl := gt5 (i := 142) rfl rfl
theorem q_1103 : (Cond.methodLink "FlatPlan" (372 : Nat) ({ cls := "FlatPlan$Plan", name := "hasPage", desc := "(I)Z" } : Jvm.MethodName)) ∈ gtbl := gt5 (i := 143) rfl rfl
theorem q_1105 : (Cond.methodLink "FlatPlan" (216 : Nat) ({ cls := "FlatPlan", name := "standing", desc := "([III)I" } : Jvm.MethodName)) ∈ gtbl := gt5 (i := 145) rfl rfl
theorem q_1106 : (Cond.static ({ cls := "FlatPlan", name := "standing", desc := "([III)I" } : Jvm.MethodName)) ∈ gtbl := gt5 (i := 146) rfl rfl
theorem q_1107 : (Cond.code ({ cls := "FlatPlan", name := "standing", desc := "([III)I" } : Jvm.MethodName) prog_1_method_16_code (5 : Nat) (Option.some FieldType.int)) ∈ gtbl := gt5 (i := 147) rfl rfl
theorem q_1108 : (Cond.methodLink "FlatPlanLaw" (186 : Nat) ({ cls := "FlatPlanLaw", name := "adOn", desc := "(LFlatPlan;II[J)I" } : Jvm.MethodName)) ∈ gtbl := gt5 (i := 148) rfl rfl
theorem q_1109 : (Cond.static ({ cls := "FlatPlanLaw", name := "adOn", desc := "(LFlatPlan;II[J)I" } : Jvm.MethodName)) ∈ gtbl := gt5 (i := 149) rfl rfl
theorem q_1110 : (Cond.codeWith ({ cls := "FlatPlanLaw", name := "adOn", desc := "(LFlatPlan;II[J)I" } : Jvm.MethodName) method_10_code (5 : Nat) (Option.some FieldType.int) [((0 : Nat), (10 : Nat), (13 : Nat), (19 : Nat))]) ∈ gtbl := gt5 (i := 150) rfl rfl
theorem q_1111 : (Cond.methodLink "FlatPlanLaw" (37 : Nat) ({ cls := "FlatPlan", name := "adOn", desc := "(II)I" } : Jvm.MethodName)) ∈ gtbl := gt5 (i := 151) rfl rfl
theorem q_1112 : (Cond.instanceMethod ({ cls := "FlatPlan", name := "adOn", desc := "(II)I" } : Jvm.MethodName)) ∈ gtbl := gt5 (i := 152) rfl rfl
theorem q_1113 : (Cond.selects "FlatPlan" ({ cls := "FlatPlan", name := "adOn", desc := "(II)I" } : Jvm.MethodName) ({ cls := "FlatPlan", name := "adOn", desc := "(II)I" } : Jvm.MethodName)) ∈ gtbl := gt5 (i := 153) rfl rfl
theorem q_1114 : (Cond.code ({ cls := "FlatPlan", name := "adOn", desc := "(II)I" } : Jvm.MethodName) prog_1_method_17_code (6 : Nat) (Option.some FieldType.int)) ∈ gtbl := gt5 (i := 154) rfl rfl
theorem q_1115 : (Cond.methodLink "FlatPlanLaw" (189 : Nat) ({ cls := "FlatPlanLaw", name := "form", desc := "(LFlatPlan;II[J)I" } : Jvm.MethodName)) ∈ gtbl := gt5 (i := 155) rfl rfl
theorem q_1116 : (Cond.static ({ cls := "FlatPlanLaw", name := "form", desc := "(LFlatPlan;II[J)I" } : Jvm.MethodName)) ∈ gtbl := gt5 (i := 156) rfl rfl
theorem q_1117 : (Cond.codeWith ({ cls := "FlatPlanLaw", name := "form", desc := "(LFlatPlan;II[J)I" } : Jvm.MethodName) method_11_code (5 : Nat) (Option.some FieldType.int) [((0 : Nat), (10 : Nat), (13 : Nat), (19 : Nat))]) ∈ gtbl := gt5 (i := 157) rfl rfl
theorem q_1118 : (Cond.methodLink "FlatPlanLaw" (40 : Nat) ({ cls := "FlatPlan", name := "form", desc := "(II)I" } : Jvm.MethodName)) ∈ gtbl := gt5 (i := 158) rfl rfl
theorem q_1119 : (Cond.instanceMethod ({ cls := "FlatPlan", name := "form", desc := "(II)I" } : Jvm.MethodName)) ∈ gtbl := gt5 (i := 159) rfl rfl
theorem q_1120 : (Cond.selects "FlatPlan" ({ cls := "FlatPlan", name := "form", desc := "(II)I" } : Jvm.MethodName) ({ cls := "FlatPlan", name := "form", desc := "(II)I" } : Jvm.MethodName)) ∈ gtbl := gt5 (i := 160) rfl rfl
theorem q_1121 : (Cond.code ({ cls := "FlatPlan", name := "form", desc := "(II)I" } : Jvm.MethodName) prog_1_method_18_code (4 : Nat) (Option.some FieldType.int)) ∈ gtbl := gt5 (i := 161) rfl rfl
theorem q_1122 : (Cond.methodLink "FlatPlan" (223 : Nat) ({ cls := "FlatPlan", name := "needForm", desc := "(I)V" } : Jvm.MethodName)) ∈ gtbl := gt5 (i := 162) rfl rfl
theorem q_1124 : (Cond.instanceMethod ({ cls := "FlatPlan", name := "needForm", desc := "(I)V" } : Jvm.MethodName)) ∈ gtbl := gt5 (i := 164) rfl rfl
theorem q_1125 : (Cond.code ({ cls := "FlatPlan", name := "needForm", desc := "(I)V" } : Jvm.MethodName) prog_1_method_67_code (2 : Nat) (Option.none : Option FieldType)) ∈ gtbl := gt5 (i := 165) rfl rfl
theorem q_1127 : (Cond.methodLink "FlatPlan" (232 : Nat) ({ cls := "FlatPlan$Plan", name := "leftOnForm", desc := "(I)I" } : Jvm.MethodName)) ∈ gtbl := gt5 (i := 167) rfl rfl
theorem q_1128 : (Cond.instanceMethod ({ cls := "FlatPlan$Plan", name := "leftOnForm", desc := "(I)I" } : Jvm.MethodName)) ∈ gtbl := gt5 (i := 168) rfl rfl
theorem q_1129 : (Cond.selects "FlatPlan$Plan" ({ cls := "FlatPlan$Plan", name := "leftOnForm", desc := "(I)I" } : Jvm.MethodName) ({ cls := "FlatPlan$Plan", name := "leftOnForm", desc := "(I)I" } : Jvm.MethodName)) ∈ gtbl := gt5 (i := 169) rfl rfl
theorem q_1130 : (Cond.code ({ cls := "FlatPlan$Plan", name := "leftOnForm", desc := "(I)I" } : Jvm.MethodName) prog_6_method_27_code (4 : Nat) (Option.some FieldType.int)) ∈ gtbl := gt5 (i := 170) rfl rfl
theorem q_1131 : (Cond.methodLink "FlatPlan" (235 : Nat) ({ cls := "FlatPlan$Plan", name := "adsOnForm", desc := "(I)I" } : Jvm.MethodName)) ∈ gtbl := gt5 (i := 171) rfl rfl
theorem q_1132 : (Cond.instanceMethod ({ cls := "FlatPlan$Plan", name := "adsOnForm", desc := "(I)I" } : Jvm.MethodName)) ∈ gtbl := gt5 (i := 172) rfl rfl
theorem q_1133 : (Cond.selects "FlatPlan$Plan" ({ cls := "FlatPlan$Plan", name := "adsOnForm", desc := "(I)I" } : Jvm.MethodName) ({ cls := "FlatPlan$Plan", name := "adsOnForm", desc := "(I)I" } : Jvm.MethodName)) ∈ gtbl := gt5 (i := 173) rfl rfl
theorem q_1134 : (Cond.code ({ cls := "FlatPlan$Plan", name := "adsOnForm", desc := "(I)I" } : Jvm.MethodName) prog_6_method_28_code (4 : Nat) (Option.some FieldType.int)) ∈ gtbl := gt5 (i := 174) rfl rfl
theorem q_1135 : (Cond.methodLink "FlatPlan" (238 : Nat) ({ cls := "FlatPlan$Plan", name := "lateOnForm", desc := "(I)I" } : Jvm.MethodName)) ∈ gtbl := gt5 (i := 175) rfl rfl
theorem q_1136 : (Cond.instanceMethod ({ cls := "FlatPlan$Plan", name := "lateOnForm", desc := "(I)I" } : Jvm.MethodName)) ∈ gtbl := gt5 (i := 176) rfl rfl
theorem q_1137 : (Cond.selects "FlatPlan$Plan" ({ cls := "FlatPlan$Plan", name := "lateOnForm", desc := "(I)I" } : Jvm.MethodName) ({ cls := "FlatPlan$Plan", name := "lateOnForm", desc := "(I)I" } : Jvm.MethodName)) ∈ gtbl := gt5 (i := 177) rfl rfl
theorem q_1138 : (Cond.code ({ cls := "FlatPlan$Plan", name := "lateOnForm", desc := "(I)I" } : Jvm.MethodName) prog_6_method_29_code (4 : Nat) (Option.some FieldType.int)) ∈ gtbl := gt5 (i := 178) rfl rfl
theorem q_1139 : (Cond.methodLink "FlatPlan$Plan" (186 : Nat) ({ cls := "FlatPlan$Plan", name := "isLate", desc := "(I)Z" } : Jvm.MethodName)) ∈ gtbl := gt5 (i := 179) rfl rfl
theorem q_1140 : (Cond.methodLink "FlatPlan" (241 : Nat) ({ cls := "FlatPlan$Plan", name := "hasColorItem", desc := "(I)Z" } : Jvm.MethodName)) ∈ gtbl := gt5 (i := 180) rfl rfl
theorem q_1141 : (Cond.instanceMethod ({ cls := "FlatPlan$Plan", name := "hasColorItem", desc := "(I)Z" } : Jvm.MethodName)) ∈ gtbl := gt5 (i := 181) rfl rfl
theorem q_1142 : (Cond.selects "FlatPlan$Plan" ({ cls := "FlatPlan$Plan", name := "hasColorItem", desc := "(I)Z" } : Jvm.MethodName) ({ cls := "FlatPlan$Plan", name := "hasColorItem", desc := "(I)Z" } : Jvm.MethodName)) ∈ gtbl := gt5 (i := 182) rfl rfl
theorem q_1143 : (Cond.code ({ cls := "FlatPlan$Plan", name := "hasColorItem", desc := "(I)Z" } : Jvm.MethodName) prog_6_method_30_code (3 : Nat) (Option.some FieldType.boolean)) ∈ gtbl := gt5 (i := 183) rfl rfl
theorem q_1144 : (Cond.methodLink "FlatPlanLaw" (192 : Nat) ({ cls := "FlatPlanLaw", name := "pageOf", desc := "(LFlatPlan;II[J)I" } : Jvm.MethodName)) ∈ gtbl := gt5 (i := 184) rfl rfl
theorem q_1145 : (Cond.static ({ cls := "FlatPlanLaw", name := "pageOf", desc := "(LFlatPlan;II[J)I" } : Jvm.MethodName)) ∈ gtbl := gt5 (i := 185) rfl rfl
theorem q_1146 : (Cond.codeWith ({ cls := "FlatPlanLaw", name := "pageOf", desc := "(LFlatPlan;II[J)I" } : Jvm.MethodName) method_12_code (5 : Nat) (Option.some FieldType.int) [((0 : Nat), (10 : Nat), (13 : Nat), (19 : Nat))]) ∈ gtbl := gt5 (i := 186) rfl rfl
theorem q_1147 : (Cond.methodLink "FlatPlanLaw" (43 : Nat) ({ cls := "FlatPlan", name := "pageOf", desc := "(II)I" } : Jvm.MethodName)) ∈ gtbl := gt5 (i := 187) rfl rfl
theorem q_1148 : (Cond.instanceMethod ({ cls := "FlatPlan", name := "pageOf", desc := "(II)I" } : Jvm.MethodName)) ∈ gtbl := gt5 (i := 188) rfl rfl
theorem q_1149 : (Cond.selects "FlatPlan" ({ cls := "FlatPlan", name := "pageOf", desc := "(II)I" } : Jvm.MethodName) ({ cls := "FlatPlan", name := "pageOf", desc := "(II)I" } : Jvm.MethodName)) ∈ gtbl := gt5 (i := 189) rfl rfl
theorem q_1150 : (Cond.code ({ cls := "FlatPlan", name := "pageOf", desc := "(II)I" } : Jvm.MethodName) prog_1_method_19_code (5 : Nat) (Option.some FieldType.int)) ∈ gtbl := gt5 (i := 190) rfl rfl
theorem q_1151 : (Cond.methodLink "FlatPlanLaw" (195 : Nat) ({ cls := "FlatPlanLaw", name := "reason", desc := "(LFlatPlan;II[J)I" } : Jvm.MethodName)) ∈ gtbl := gt5 (i := 191) rfl rfl
theorem q_1152 : (Cond.static ({ cls := "FlatPlanLaw", name := "reason", desc := "(LFlatPlan;II[J)I" } : Jvm.MethodName)) ∈ gtbl := gt5 (i := 192) rfl rfl
theorem q_1153 : (Cond.codeWith ({ cls := "FlatPlanLaw", name := "reason", desc := "(LFlatPlan;II[J)I" } : Jvm.MethodName) method_13_code (5 : Nat) (Option.some FieldType.int) [((0 : Nat), (10 : Nat), (13 : Nat), (19 : Nat))]) ∈ gtbl := gt5 (i := 193) rfl rfl
theorem q_1154 : (Cond.methodLink "FlatPlanLaw" (46 : Nat) ({ cls := "FlatPlan", name := "reason", desc := "(II)I" } : Jvm.MethodName)) ∈ gtbl := gt5 (i := 194) rfl rfl
theorem q_1155 : (Cond.instanceMethod ({ cls := "FlatPlan", name := "reason", desc := "(II)I" } : Jvm.MethodName)) ∈ gtbl := gt5 (i := 195) rfl rfl
theorem q_1156 : (Cond.selects "FlatPlan" ({ cls := "FlatPlan", name := "reason", desc := "(II)I" } : Jvm.MethodName) ({ cls := "FlatPlan", name := "reason", desc := "(II)I" } : Jvm.MethodName)) ∈ gtbl := gt5 (i := 196) rfl rfl
theorem q_1157 : (Cond.code ({ cls := "FlatPlan", name := "reason", desc := "(II)I" } : Jvm.MethodName) prog_1_method_20_code (3 : Nat) (Option.some FieldType.int)) ∈ gtbl := gt5 (i := 197) rfl rfl
theorem q_1158 : (Cond.methodLink "FlatPlan" (244 : Nat) ({ cls := "FlatPlan$Plan", name := "adReason", desc := "(II)I" } : Jvm.MethodName)) ∈ gtbl := gt5 (i := 198) rfl rfl
theorem q_1159 : (Cond.methodLink "FlatPlanLaw" (198 : Nat) ({ cls := "FlatPlanLaw", name := "storyReason", desc := "(LFlatPlan;II[J)I" } : Jvm.MethodName)) ∈ gtbl := gt5 (i := 199) rfl rfl
theorem q_1160 : (Cond.static ({ cls := "FlatPlanLaw", name := "storyReason", desc := "(LFlatPlan;II[J)I" } : Jvm.MethodName)) ∈ gtbl := gt5 (i := 200) rfl rfl
theorem q_1161 : (Cond.codeWith ({ cls := "FlatPlanLaw", name := "storyReason", desc := "(LFlatPlan;II[J)I" } : Jvm.MethodName) method_14_code (5 : Nat) (Option.some FieldType.int) [((0 : Nat), (10 : Nat), (13 : Nat), (19 : Nat))]) ∈ gtbl := gt5 (i := 201) rfl rfl
theorem q_1162 : (Cond.methodLink "FlatPlanLaw" (49 : Nat) ({ cls := "FlatPlan", name := "storyReason", desc := "(II)I" } : Jvm.MethodName)) ∈ gtbl := gt5 (i := 202) rfl rfl
theorem q_1163 : (Cond.instanceMethod ({ cls := "FlatPlan", name := "storyReason", desc := "(II)I" } : Jvm.MethodName)) ∈ gtbl := gt5 (i := 203) rfl rfl
theorem q_1164 : (Cond.selects "FlatPlan" ({ cls := "FlatPlan", name := "storyReason", desc := "(II)I" } : Jvm.MethodName) ({ cls := "FlatPlan", name := "storyReason", desc := "(II)I" } : Jvm.MethodName)) ∈ gtbl := gt5 (i := 204) rfl rfl
theorem q_1165 : (Cond.code ({ cls := "FlatPlan", name := "storyReason", desc := "(II)I" } : Jvm.MethodName) prog_1_method_21_code (3 : Nat) (Option.some FieldType.int)) ∈ gtbl := gt5 (i := 205) rfl rfl
theorem q_1166 : (Cond.methodLink "FlatPlan" (248 : Nat) ({ cls := "FlatPlan$Plan", name := "layReason", desc := "(II)I" } : Jvm.MethodName)) ∈ gtbl := gt5 (i := 206) rfl rfl
theorem q_1167 : (Cond.methodLink "FlatPlanLaw" (201 : Nat) ({ cls := "FlatPlanLaw", name := "put", desc := "(LFlatPlan;II[J)I" } : Jvm.MethodName)) ∈ gtbl := gt5 (i := 207) rfl rfl
theorem q_1168 : (Cond.static ({ cls := "FlatPlanLaw", name := "put", desc := "(LFlatPlan;II[J)I" } : Jvm.MethodName)) ∈ gtbl := gt5 (i := 208) rfl rfl
theorem q_1169 : (Cond.codeWith ({ cls := "FlatPlanLaw", name := "put", desc := "(LFlatPlan;II[J)I" } : Jvm.MethodName) method_15_code (5 : Nat) (Option.some FieldType.int) [((0 : Nat), (10 : Nat), (13 : Nat), (19 : Nat))]) ∈ gtbl := gt5 (i := 209) rfl rfl
theorem q_1170 : (Cond.methodLink "FlatPlanLaw" (52 : Nat) ({ cls := "FlatPlan", name := "put", desc := "(II)I" } : Jvm.MethodName)) ∈ gtbl := gt5 (i := 210) rfl rfl
theorem q_1171 : (Cond.instanceMethod ({ cls := "FlatPlan", name := "put", desc := "(II)I" } : Jvm.MethodName)) ∈ gtbl := gt5 (i := 211) rfl rfl
theorem q_1172 : (Cond.selects "FlatPlan" ({ cls := "FlatPlan", name := "put", desc := "(II)I" } : Jvm.MethodName) ({ cls := "FlatPlan", name := "put", desc := "(II)I" } : Jvm.MethodName)) ∈ gtbl := gt5 (i := 212) rfl rfl
theorem q_1173 : (Cond.code ({ cls := "FlatPlan", name := "put", desc := "(II)I" } : Jvm.MethodName) prog_1_method_22_code (4 : Nat) (Option.some FieldType.int)) ∈ gtbl := gt5 (i := 213) rfl rfl
theorem q_1174 : (Cond.methodLink "FlatPlan" (251 : Nat) ({ cls := "FlatPlan$Plan", name := "isPrinted", desc := "(I)Z" } : Jvm.MethodName)) ∈ gtbl := gt5 (i := 214) rfl rfl
theorem q_1175 : (Cond.methodLink "FlatPlan" (254 : Nat) ({ cls := "FlatPlan$Plan", name := "recount", desc := "()V" } : Jvm.MethodName)) ∈ gtbl := gt5 (i := 215) rfl rfl
theorem q_1176 : (Cond.methodLink "FlatPlanLaw" (204 : Nat) ({ cls := "FlatPlanLaw", name := "lay", desc := "(LFlatPlan;II[J)I" } : Jvm.MethodName)) ∈ gtbl := gt5 (i := 216) rfl rfl
theorem q_1177 : (Cond.static ({ cls := "FlatPlanLaw", name := "lay", desc := "(LFlatPlan;II[J)I" } : Jvm.MethodName)) ∈ gtbl := gt5 (i := 217) rfl rfl
theorem q_1178 : (Cond.codeWith ({ cls := "FlatPlanLaw", name := "lay", desc := "(LFlatPlan;II[J)I" } : Jvm.MethodName) method_16_code (5 : Nat) (Option.some FieldType.int) [((0 : Nat), (10 : Nat), (13 : Nat), (19 : Nat))]) ∈ gtbl := gt5 (i := 218) rfl rfl
theorem q_1179 : (Cond.methodLink "FlatPlanLaw" (55 : Nat) ({ cls := "FlatPlan", name := "lay", desc := "(II)I" } : Jvm.MethodName)) ∈ gtbl := gt5 (i := 219) rfl rfl
theorem q_1180 : (Cond.instanceMethod ({ cls := "FlatPlan", name := "lay", desc := "(II)I" } : Jvm.MethodName)) ∈ gtbl := gt5 (i := 220) rfl rfl
theorem q_1181 : (Cond.selects "FlatPlan" ({ cls := "FlatPlan", name := "lay", desc := "(II)I" } : Jvm.MethodName) ({ cls := "FlatPlan", name := "lay", desc := "(II)I" } : Jvm.MethodName)) ∈ gtbl := gt5 (i := 221) rfl rfl
theorem q_1182 : (Cond.code ({ cls := "FlatPlan", name := "lay", desc := "(II)I" } : Jvm.MethodName) prog_1_method_23_code (4 : Nat) (Option.some FieldType.int)) ∈ gtbl := gt5 (i := 222) rfl rfl
theorem q_1183 : (Cond.methodLink "FlatPlan" (257 : Nat) ({ cls := "FlatPlan$Plan", name := "storyIsPrinted", desc := "(I)Z" } : Jvm.MethodName)) ∈ gtbl := gt5 (i := 223) rfl rfl
theorem q_1184 : (Cond.instanceMethod ({ cls := "FlatPlan$Plan", name := "storyIsPrinted", desc := "(I)Z" } : Jvm.MethodName)) ∈ gtbl := gt5 (i := 224) rfl rfl
theorem q_1185 : (Cond.selects "FlatPlan$Plan" ({ cls := "FlatPlan$Plan", name := "storyIsPrinted", desc := "(I)Z" } : Jvm.MethodName) ({ cls := "FlatPlan$Plan", name := "storyIsPrinted", desc := "(I)Z" } : Jvm.MethodName)) ∈ gtbl := gt5 (i := 225) rfl rfl
theorem q_1186 : (Cond.code ({ cls := "FlatPlan$Plan", name := "storyIsPrinted", desc := "(I)Z" } : Jvm.MethodName) prog_6_method_24_code (2 : Nat) (Option.some FieldType.boolean)) ∈ gtbl := gt5 (i := 226) rfl rfl
theorem q_1187 : (Cond.methodLink "FlatPlanLaw" (207 : Nat) ({ cls := "FlatPlanLaw", name := "take", desc := "(LFlatPlan;I[J)I" } : Jvm.MethodName)) ∈ gtbl := gt5 (i := 227) rfl rfl
theorem q_1188 : (Cond.static ({ cls := "FlatPlanLaw", name := "take", desc := "(LFlatPlan;I[J)I" } : Jvm.MethodName)) ∈ gtbl := gt5 (i := 228) rfl rfl
theorem q_1189 : (Cond.codeWith ({ cls := "FlatPlanLaw", name := "take", desc := "(LFlatPlan;I[J)I" } : Jvm.MethodName) method_17_code (4 : Nat) (Option.some FieldType.int) [((0 : Nat), (16 : Nat), (19 : Nat), (19 : Nat))]) ∈ gtbl := gt5 (i := 229) rfl rfl
theorem q_1190 : (Cond.methodLink "FlatPlanLaw" (58 : Nat) ({ cls := "FlatPlan", name := "take", desc := "(I)Z" } : Jvm.MethodName)) ∈ gtbl := gt5 (i := 230) rfl rfl
theorem q_1191 : (Cond.instanceMethod ({ cls := "FlatPlan", name := "take", desc := "(I)Z" } : Jvm.MethodName)) ∈ gtbl := gt5 (i := 231) rfl rfl
theorem q_1192 : (Cond.selects "FlatPlan" ({ cls := "FlatPlan", name := "take", desc := "(I)Z" } : Jvm.MethodName) ({ cls := "FlatPlan", name := "take", desc := "(I)Z" } : Jvm.MethodName)) ∈ gtbl := gt5 (i := 232) rfl rfl
theorem q_1193 : (Cond.code ({ cls := "FlatPlan", name := "take", desc := "(I)Z" } : Jvm.MethodName) prog_1_method_24_code (3 : Nat) (Option.some FieldType.boolean)) ∈ gtbl := gt5 (i := 233) rfl rfl
theorem q_1194 : (Cond.methodLink "FlatPlanLaw" (211 : Nat) ({ cls := "FlatPlanLaw", name := "takeStory", desc := "(LFlatPlan;I[J)I" } : Jvm.MethodName)) ∈ gtbl := gt5 (i := 234) rfl rfl
theorem q_1195 : (Cond.static ({ cls := "FlatPlanLaw", name := "takeStory", desc := "(LFlatPlan;I[J)I" } : Jvm.MethodName)) ∈ gtbl := gt5 (i := 235) rfl rfl
theorem q_1196 : (Cond.codeWith ({ cls := "FlatPlanLaw", name := "takeStory", desc := "(LFlatPlan;I[J)I" } : Jvm.MethodName) method_18_code (4 : Nat) (Option.some FieldType.int) [((0 : Nat), (16 : Nat), (19 : Nat), (19 : Nat))]) ∈ gtbl := gt5 (i := 236) rfl rfl
theorem q_1197 : (Cond.methodLink "FlatPlanLaw" (62 : Nat) ({ cls := "FlatPlan", name := "takeStory", desc := "(I)Z" } : Jvm.MethodName)) ∈ gtbl := gt5 (i := 237) rfl rfl
theorem q_1198 : (Cond.instanceMethod ({ cls := "FlatPlan", name := "takeStory", desc := "(I)Z" } : Jvm.MethodName)) ∈ gtbl := gt5 (i := 238) rfl rfl
theorem q_1199 : (Cond.selects "FlatPlan" ({ cls := "FlatPlan", name := "takeStory", desc := "(I)Z" } : Jvm.MethodName) ({ cls := "FlatPlan", name := "takeStory", desc := "(I)Z" } : Jvm.MethodName)) ∈ gtbl := gt5 (i := 239) rfl rfl
theorem q_1200 : (Cond.code ({ cls := "FlatPlan", name := "takeStory", desc := "(I)Z" } : Jvm.MethodName) prog_1_method_25_code (2 : Nat) (Option.some FieldType.boolean)) ∈ gtbl := gt6 (i := 0) rfl rfl
theorem q_1201 : (Cond.methodLink "FlatPlanLaw" (214 : Nat) ({ cls := "FlatPlanLaw", name := "use", desc := "(LFlatPlan;II[J)I" } : Jvm.MethodName)) ∈ gtbl := gt6 (i := 1) rfl rfl
theorem q_1202 : (Cond.static ({ cls := "FlatPlanLaw", name := "use", desc := "(LFlatPlan;II[J)I" } : Jvm.MethodName)) ∈ gtbl := gt6 (i := 2) rfl rfl
theorem q_1203 : (Cond.codeWith ({ cls := "FlatPlanLaw", name := "use", desc := "(LFlatPlan;II[J)I" } : Jvm.MethodName) method_19_code (5 : Nat) (Option.some FieldType.int) [((0 : Nat), (10 : Nat), (13 : Nat), (19 : Nat))]) ∈ gtbl := gt6 (i := 3) rfl rfl
theorem q_1204 : (Cond.methodLink "FlatPlanLaw" (65 : Nat) ({ cls := "FlatPlan", name := "use", desc := "(II)I" } : Jvm.MethodName)) ∈ gtbl := gt6 (i := 4) rfl rfl
theorem q_1205 : (Cond.instanceMethod ({ cls := "FlatPlan", name := "use", desc := "(II)I" } : Jvm.MethodName)) ∈ gtbl := gt6 (i := 5) rfl rfl
theorem q_1206 : (Cond.selects "FlatPlan" ({ cls := "FlatPlan", name := "use", desc := "(II)I" } : Jvm.MethodName) ({ cls := "FlatPlan", name := "use", desc := "(II)I" } : Jvm.MethodName)) ∈ gtbl := gt6 (i := 6) rfl rfl
theorem q_1207 : (Cond.code ({ cls := "FlatPlan", name := "use", desc := "(II)I" } : Jvm.MethodName) prog_1_method_26_code (4 : Nat) (Option.some FieldType.int)) ∈ gtbl := gt6 (i := 7) rfl rfl
theorem q_1208 : (Cond.methodLink "FlatPlan" (260 : Nat) ({ cls := "FlatPlan$Plan", name := "useReason", desc := "(II)I" } : Jvm.MethodName)) ∈ gtbl := gt6 (i := 8) rfl rfl
theorem q_1209 : (Cond.instanceMethod ({ cls := "FlatPlan$Plan", name := "useReason", desc := "(II)I" } : Jvm.MethodName)) ∈ gtbl := gt6 (i := 9) rfl rfl
theorem q_1210 : (Cond.selects "FlatPlan$Plan" ({ cls := "FlatPlan$Plan", name := "useReason", desc := "(II)I" } : Jvm.MethodName) ({ cls := "FlatPlan$Plan", name := "useReason", desc := "(II)I" } : Jvm.MethodName)) ∈ gtbl := gt6 (i := 10) rfl rfl
theorem q_1211 : (Cond.code ({ cls := "FlatPlan$Plan", name := "useReason", desc := "(II)I" } : Jvm.MethodName) prog_6_method_19_code (6 : Nat) (Option.some FieldType.int)) ∈ gtbl := gt6 (i := 11) rfl rfl
theorem q_1212 : (Cond.methodLink "FlatPlanLaw" (217 : Nat) ({ cls := "FlatPlanLaw", name := "clear", desc := "(LFlatPlan;I[J)I" } : Jvm.MethodName)) ∈ gtbl := gt6 (i := 12) rfl rfl
theorem q_1213 : (Cond.static ({ cls := "FlatPlanLaw", name := "clear", desc := "(LFlatPlan;I[J)I" } : Jvm.MethodName)) ∈ gtbl := gt6 (i := 13) rfl rfl
theorem q_1214 : (Cond.codeWith ({ cls := "FlatPlanLaw", name := "clear", desc := "(LFlatPlan;I[J)I" } : Jvm.MethodName) method_20_code (4 : Nat) (Option.some FieldType.int) [((0 : Nat), (9 : Nat), (12 : Nat), (19 : Nat))]) ∈ gtbl := gt6 (i := 14) rfl rfl
theorem q_1215 : (Cond.methodLink "FlatPlanLaw" (68 : Nat) ({ cls := "FlatPlan", name := "clear", desc := "(I)I" } : Jvm.MethodName)) ∈ gtbl := gt6 (i := 15) rfl rfl
theorem q_1216 : (Cond.instanceMethod ({ cls := "FlatPlan", name := "clear", desc := "(I)I" } : Jvm.MethodName)) ∈ gtbl := gt6 (i := 16) rfl rfl
theorem q_1217 : (Cond.selects "FlatPlan" ({ cls := "FlatPlan", name := "clear", desc := "(I)I" } : Jvm.MethodName) ({ cls := "FlatPlan", name := "clear", desc := "(I)I" } : Jvm.MethodName)) ∈ gtbl := gt6 (i := 17) rfl rfl
theorem q_1218 : (Cond.code ({ cls := "FlatPlan", name := "clear", desc := "(I)I" } : Jvm.MethodName) prog_1_method_27_code (5 : Nat) (Option.some FieldType.int)) ∈ gtbl := gt6 (i := 18) rfl rfl
theorem q_1219 : (Cond.methodLink "FlatPlanLaw" (220 : Nat) ({ cls := "FlatPlanLaw", name := "exchange", desc := "(LFlatPlan;II[J)I" } : Jvm.MethodName)) ∈ gtbl := gt6 (i := 19) rfl rfl
theorem q_1220 : (Cond.static ({ cls := "FlatPlanLaw", name := "exchange", desc := "(LFlatPlan;II[J)I" } : Jvm.MethodName)) ∈ gtbl := gt6 (i := 20) rfl rfl
theorem q_1221 : (Cond.codeWith ({ cls := "FlatPlanLaw", name := "exchange", desc := "(LFlatPlan;II[J)I" } : Jvm.MethodName) method_21_code (5 : Nat) (Option.some FieldType.int) [((0 : Nat), (10 : Nat), (13 : Nat), (19 : Nat))]) ∈ gtbl := gt6 (i := 21) rfl rfl
theorem q_1222 : (Cond.methodLink "FlatPlanLaw" (72 : Nat) ({ cls := "FlatPlan", name := "exchange", desc := "(II)I" } : Jvm.MethodName)) ∈ gtbl := gt6 (i := 22) rfl rfl
theorem q_1223 : (Cond.instanceMethod ({ cls := "FlatPlan", name := "exchange", desc := "(II)I" } : Jvm.MethodName)) ∈ gtbl := gt6 (i := 23) rfl rfl
theorem q_1224 : (Cond.selects "FlatPlan" ({ cls := "FlatPlan", name := "exchange", desc := "(II)I" } : Jvm.MethodName) ({ cls := "FlatPlan", name := "exchange", desc := "(II)I" } : Jvm.MethodName)) ∈ gtbl := gt6 (i := 24) rfl rfl
theorem q_1225 : (Cond.code ({ cls := "FlatPlan", name := "exchange", desc := "(II)I" } : Jvm.MethodName) prog_1_method_28_code (6 : Nat) (Option.some FieldType.int)) ∈ gtbl := gt6 (i := 25) rfl rfl
theorem q_1226 : (Cond.methodLink "FlatPlan" (263 : Nat) ({ cls := "FlatPlan$Plan", name := "exchangeReason", desc := "(II)I" } : Jvm.MethodName)) ∈ gtbl := gt6 (i := 26) rfl rfl
theorem q_1227 : (Cond.methodLink "FlatPlan" (266 : Nat) ({ cls := "FlatPlan$Plan", name := "exchanged", desc := "(III)I" } : Jvm.MethodName)) ∈ gtbl := gt6 (i := 27) rfl rfl
theorem q_1228 : (Cond.methodLink "FlatPlanLaw" (223 : Nat) ({ cls := "FlatPlanLaw", name := "setColor", desc := "(LFlatPlan;IZ[J)I" } : Jvm.MethodName)) ∈ gtbl := gt6 (i := 28) rfl rfl
theorem q_1229 : (Cond.static ({ cls := "FlatPlanLaw", name := "setColor", desc := "(LFlatPlan;IZ[J)I" } : Jvm.MethodName)) ∈ gtbl := gt6 (i := 29) rfl rfl
theorem q_1230 : (Cond.codeWith ({ cls := "FlatPlanLaw", name := "setColor", desc := "(LFlatPlan;IZ[J)I" } : Jvm.MethodName) method_22_code (5 : Nat) (Option.some FieldType.int) [((0 : Nat), (17 : Nat), (20 : Nat), (19 : Nat))]) ∈ gtbl := gt6 (i := 30) rfl rfl
theorem q_1231 : (Cond.methodLink "FlatPlanLaw" (75 : Nat) ({ cls := "FlatPlan", name := "setColor", desc := "(IZ)Z" } : Jvm.MethodName)) ∈ gtbl := gt6 (i := 31) rfl rfl
theorem q_1232 : (Cond.instanceMethod ({ cls := "FlatPlan", name := "setColor", desc := "(IZ)Z" } : Jvm.MethodName)) ∈ gtbl := gt6 (i := 32) rfl rfl
theorem q_1233 : (Cond.selects "FlatPlan" ({ cls := "FlatPlan", name := "setColor", desc := "(IZ)Z" } : Jvm.MethodName) ({ cls := "FlatPlan", name := "setColor", desc := "(IZ)Z" } : Jvm.MethodName)) ∈ gtbl := gt6 (i := 33) rfl rfl
theorem q_1234 : (Cond.code ({ cls := "FlatPlan", name := "setColor", desc := "(IZ)Z" } : Jvm.MethodName) prog_1_method_29_code (4 : Nat) (Option.some FieldType.boolean)) ∈ gtbl := gt6 (i := 34) rfl rfl
theorem q_1235 : (Cond.methodLink "FlatPlanLaw" (227 : Nat) ({ cls := "FlatPlanLaw", name := "setClosing", desc := "(LFlatPlan;II[J)I" } : Jvm.MethodName)) ∈ gtbl := gt6 (i := 35) rfl rfl
theorem q_1236 : (Cond.static ({ cls := "FlatPlanLaw", name := "setClosing", desc := "(LFlatPlan;II[J)I" } : Jvm.MethodName)) ∈ gtbl := gt6 (i := 36) rfl rfl
theorem q_1237 : (Cond.codeWith ({ cls := "FlatPlanLaw", name := "setClosing", desc := "(LFlatPlan;II[J)I" } : Jvm.MethodName) method_23_code (5 : Nat) (Option.some FieldType.int) [((0 : Nat), (10 : Nat), (13 : Nat), (19 : Nat)), ((0 : Nat), (10 : Nat), (17 : Nat), (13 : Nat))]) ∈ gtbl := gt6 (i := 37) rfl rfl
theorem q_1238 : (Cond.methodLink "FlatPlanLaw" (79 : Nat) ({ cls := "FlatPlan", name := "setClosing", desc := "(II)I" } : Jvm.MethodName)) ∈ gtbl := gt6 (i := 38) rfl rfl
theorem q_1239 : (Cond.instanceMethod ({ cls := "FlatPlan", name := "setClosing", desc := "(II)I" } : Jvm.MethodName)) ∈ gtbl := gt6 (i := 39) rfl rfl
theorem q_1240 : (Cond.selects "FlatPlan" ({ cls := "FlatPlan", name := "setClosing", desc := "(II)I" } : Jvm.MethodName) ({ cls := "FlatPlan", name := "setClosing", desc := "(II)I" } : Jvm.MethodName)) ∈ gtbl := gt6 (i := 40) rfl rfl
theorem q_1241 : (Cond.code ({ cls := "FlatPlan", name := "setClosing", desc := "(II)I" } : Jvm.MethodName) prog_1_method_30_code (5 : Nat) (Option.some FieldType.int)) ∈ gtbl := gt6 (i := 41) rfl rfl
theorem q_1243 : (Cond.methodLink "FlatPlan" (272 : Nat) ({ cls := "FlatPlan$Plan", name := "closeDueForms", desc := "()I" } : Jvm.MethodName)) ∈ gtbl := gt6 (i := 43) rfl rfl
theorem q_1244 : (Cond.instanceMethod ({ cls := "FlatPlan$Plan", name := "closeDueForms", desc := "()I" } : Jvm.MethodName)) ∈ gtbl := gt6 (i := 44) rfl rfl
theorem q_1245 : (Cond.selects "FlatPlan$Plan" ({ cls := "FlatPlan$Plan", name := "closeDueForms", desc := "()I" } : Jvm.MethodName) ({ cls := "FlatPlan$Plan", name := "closeDueForms", desc := "()I" } : Jvm.MethodName)) ∈ gtbl := gt6 (i := 45) rfl rfl
theorem q_1246 : (Cond.code ({ cls := "FlatPlan$Plan", name := "closeDueForms", desc := "()I" } : Jvm.MethodName) prog_6_method_32_code (4 : Nat) (Option.some FieldType.int)) ∈ gtbl := gt6 (i := 46) rfl rfl
theorem q_1247 : (Cond.methodLink "FlatPlan$Plan" (190 : Nat) ({ cls := "FlatPlan$Plan", name := "soonestForm", desc := "()I" } : Jvm.MethodName)) ∈ gtbl := gt6 (i := 47) rfl rfl
theorem q_1248 : (Cond.methodLink "FlatPlan$Plan" (194 : Nat) ({ cls := "FlatPlan$Plan", name := "closeForm", desc := "(I)V" } : Jvm.MethodName)) ∈ gtbl := gt6 (i := 48) rfl rfl
theorem q_1250 : (Cond.instanceMethod ({ cls := "FlatPlan$Plan", name := "closeForm", desc := "(I)V" } : Jvm.MethodName)) ∈ gtbl := gt6 (i := 50) rfl rfl
theorem q_1251 : (Cond.code ({ cls := "FlatPlan$Plan", name := "closeForm", desc := "(I)V" } : Jvm.MethodName) prog_6_method_33_code (3 : Nat) (Option.none : Option FieldType)) ∈ gtbl := gt6 (i := 51) rfl rfl
theorem q_1252 : (Cond.methodLink "FlatPlan$Plan" (198 : Nat) ({ cls := "FlatPlan$Plan", name := "replaceLateAds", desc := "(I)V" } : Jvm.MethodName)) ∈ gtbl := gt6 (i := 52) rfl rfl
theorem q_1254 : (Cond.instanceMethod ({ cls := "FlatPlan$Plan", name := "replaceLateAds", desc := "(I)V" } : Jvm.MethodName)) ∈ gtbl := gt6 (i := 54) rfl rfl
theorem q_1255 : (Cond.code ({ cls := "FlatPlan$Plan", name := "replaceLateAds", desc := "(I)V" } : Jvm.MethodName) prog_6_method_34_code (5 : Nat) (Option.none : Option FieldType)) ∈ gtbl := gt6 (i := 55) rfl rfl
theorem q_1256 : (Cond.methodLink "FlatPlan$Plan" (204 : Nat) ({ cls := "FlatPlan$Standbys", name := "unused", desc := "(I)I" } : Jvm.MethodName)) ∈ gtbl := gt6 (i := 56) rfl rfl
theorem q_1257 : (Cond.instanceMethod ({ cls := "FlatPlan$Standbys", name := "unused", desc := "(I)I" } : Jvm.MethodName)) ∈ gtbl := gt6 (i := 57) rfl rfl
theorem q_1258 : (Cond.selects "FlatPlan$Standbys" ({ cls := "FlatPlan$Standbys", name := "unused", desc := "(I)I" } : Jvm.MethodName) ({ cls := "FlatPlan$Standbys", name := "unused", desc := "(I)I" } : Jvm.MethodName)) ∈ gtbl := gt6 (i := 58) rfl rfl
theorem q_1259 : (Cond.code ({ cls := "FlatPlan$Standbys", name := "unused", desc := "(I)I" } : Jvm.MethodName) prog_9_method_3_code (3 : Nat) (Option.some FieldType.int)) ∈ gtbl := gt6 (i := 59) rfl rfl
theorem q_1260 : (Cond.methodLink "FlatPlanLaw" (230 : Nat) ({ cls := "FlatPlanLaw", name := "pass", desc := "(LFlatPlan;I[J)I" } : Jvm.MethodName)) ∈ gtbl := gt6 (i := 60) rfl rfl
theorem q_1261 : (Cond.static ({ cls := "FlatPlanLaw", name := "pass", desc := "(LFlatPlan;I[J)I" } : Jvm.MethodName)) ∈ gtbl := gt6 (i := 61) rfl rfl
theorem q_1262 : (Cond.codeWith ({ cls := "FlatPlanLaw", name := "pass", desc := "(LFlatPlan;I[J)I" } : Jvm.MethodName) method_24_code (4 : Nat) (Option.some FieldType.int) [((0 : Nat), (9 : Nat), (12 : Nat), (13 : Nat))]) ∈ gtbl := gt6 (i := 62) rfl rfl
theorem q_1263 : (Cond.methodLink "FlatPlanLaw" (82 : Nat) ({ cls := "FlatPlan", name := "pass", desc := "(I)I" } : Jvm.MethodName)) ∈ gtbl := gt6 (i := 63) rfl rfl
theorem q_1264 : (Cond.instanceMethod ({ cls := "FlatPlan", name := "pass", desc := "(I)I" } : Jvm.MethodName)) ∈ gtbl := gt6 (i := 64) rfl rfl
theorem q_1265 : (Cond.selects "FlatPlan" ({ cls := "FlatPlan", name := "pass", desc := "(I)I" } : Jvm.MethodName) ({ cls := "FlatPlan", name := "pass", desc := "(I)I" } : Jvm.MethodName)) ∈ gtbl := gt6 (i := 65) rfl rfl
theorem q_1266 : (Cond.code ({ cls := "FlatPlan", name := "pass", desc := "(I)I" } : Jvm.MethodName) prog_1_method_31_code (4 : Nat) (Option.some FieldType.int)) ∈ gtbl := gt6 (i := 66) rfl rfl
theorem q_1268 : (Cond.methodLink "FlatPlanLaw" (233 : Nat) ({ cls := "FlatPlanLaw", name := "print", desc := "(LFlatPlan;I[J)I" } : Jvm.MethodName)) ∈ gtbl := gt6 (i := 68) rfl rfl
theorem q_1269 : (Cond.static ({ cls := "FlatPlanLaw", name := "print", desc := "(LFlatPlan;I[J)I" } : Jvm.MethodName)) ∈ gtbl := gt6 (i := 69) rfl rfl
theorem q_1270 : (Cond.codeWith ({ cls := "FlatPlanLaw", name := "print", desc := "(LFlatPlan;I[J)I" } : Jvm.MethodName) method_25_code (4 : Nat) (Option.some FieldType.int) [((0 : Nat), (9 : Nat), (12 : Nat), (19 : Nat))]) ∈ gtbl := gt6 (i := 70) rfl rfl
theorem q_1271 : (Cond.methodLink "FlatPlanLaw" (85 : Nat) ({ cls := "FlatPlan", name := "print", desc := "(I)I" } : Jvm.MethodName)) ∈ gtbl := gt6 (i := 71) rfl rfl
theorem q_1272 : (Cond.instanceMethod ({ cls := "FlatPlan", name := "print", desc := "(I)I" } : Jvm.MethodName)) ∈ gtbl := gt6 (i := 72) rfl rfl
theorem q_1273 : (Cond.selects "FlatPlan" ({ cls := "FlatPlan", name := "print", desc := "(I)I" } : Jvm.MethodName) ({ cls := "FlatPlan", name := "print", desc := "(I)I" } : Jvm.MethodName)) ∈ gtbl := gt6 (i := 73) rfl rfl
theorem q_1274 : (Cond.code ({ cls := "FlatPlan", name := "print", desc := "(I)I" } : Jvm.MethodName) prog_1_method_32_code (2 : Nat) (Option.some FieldType.int)) ∈ gtbl := gt6 (i := 74) rfl rfl
theorem q_1275 : (Cond.methodLink "FlatPlanLaw" (248 : Nat) ({ cls := "FlatPlanLaw", name := "choices", desc := "(LFlatPlan;I[J)I" } : Jvm.MethodName)) ∈ gtbl := gt6 (i := 75) rfl rfl
theorem q_1276 : (Cond.static ({ cls := "FlatPlanLaw", name := "choices", desc := "(LFlatPlan;I[J)I" } : Jvm.MethodName)) ∈ gtbl := gt6 (i := 76) rfl rfl
theorem q_1277 : (Cond.codeWith ({ cls := "FlatPlanLaw", name := "choices", desc := "(LFlatPlan;I[J)I" } : Jvm.MethodName) method_26_code (4 : Nat) (Option.some FieldType.int) [((0 : Nat), (9 : Nat), (12 : Nat), (19 : Nat))]) ∈ gtbl := gt6 (i := 77) rfl rfl
theorem q_1278 : (Cond.methodLink "FlatPlanLaw" (88 : Nat) ({ cls := "FlatPlan", name := "choices", desc := "(I)I" } : Jvm.MethodName)) ∈ gtbl := gt6 (i := 78) rfl rfl
theorem q_1279 : (Cond.instanceMethod ({ cls := "FlatPlan", name := "choices", desc := "(I)I" } : Jvm.MethodName)) ∈ gtbl := gt6 (i := 79) rfl rfl
theorem q_1280 : (Cond.selects "FlatPlan" ({ cls := "FlatPlan", name := "choices", desc := "(I)I" } : Jvm.MethodName) ({ cls := "FlatPlan", name := "choices", desc := "(I)I" } : Jvm.MethodName)) ∈ gtbl := gt6 (i := 80) rfl rfl
theorem q_1281 : (Cond.code ({ cls := "FlatPlan", name := "choices", desc := "(I)I" } : Jvm.MethodName) prog_1_method_36_code (2 : Nat) (Option.some FieldType.int)) ∈ gtbl := gt6 (i := 81) rfl rfl
theorem q_1282 : (Cond.methodLink "FlatPlan" (286 : Nat) ({ cls := "FlatPlan$Searches", name := "pagesFor", desc := "(I)I" } : Jvm.MethodName)) ∈ gtbl := gt6 (i := 82) rfl rfl
theorem q_1283 : (Cond.methodLink "FlatPlanLaw" (251 : Nat) ({ cls := "FlatPlanLaw", name := "firstPage", desc := "(LFlatPlan;II[J)I" } : Jvm.MethodName)) ∈ gtbl := gt6 (i := 83) rfl rfl
theorem q_1284 : (Cond.static ({ cls := "FlatPlanLaw", name := "firstPage", desc := "(LFlatPlan;II[J)I" } : Jvm.MethodName)) ∈ gtbl := gt6 (i := 84) rfl rfl
theorem q_1285 : (Cond.codeWith ({ cls := "FlatPlanLaw", name := "firstPage", desc := "(LFlatPlan;II[J)I" } : Jvm.MethodName) method_27_code (5 : Nat) (Option.some FieldType.int) [((0 : Nat), (10 : Nat), (13 : Nat), (19 : Nat))]) ∈ gtbl := gt6 (i := 85) rfl rfl
theorem q_1286 : (Cond.methodLink "FlatPlanLaw" (91 : Nat) ({ cls := "FlatPlan", name := "firstPage", desc := "(II)I" } : Jvm.MethodName)) ∈ gtbl := gt6 (i := 86) rfl rfl
theorem q_1287 : (Cond.instanceMethod ({ cls := "FlatPlan", name := "firstPage", desc := "(II)I" } : Jvm.MethodName)) ∈ gtbl := gt6 (i := 87) rfl rfl
theorem q_1288 : (Cond.selects "FlatPlan" ({ cls := "FlatPlan", name := "firstPage", desc := "(II)I" } : Jvm.MethodName) ({ cls := "FlatPlan", name := "firstPage", desc := "(II)I" } : Jvm.MethodName)) ∈ gtbl := gt6 (i := 88) rfl rfl
theorem q_1289 : (Cond.code ({ cls := "FlatPlan", name := "firstPage", desc := "(II)I" } : Jvm.MethodName) prog_1_method_37_code (3 : Nat) (Option.some FieldType.int)) ∈ gtbl := gt6 (i := 89) rfl rfl
theorem q_1290 : (Cond.methodLink "FlatPlan" (289 : Nat) ({ cls := "FlatPlan$Plan", name := "firstFor", desc := "(II)I" } : Jvm.MethodName)) ∈ gtbl := gt6 (i := 90) rfl rfl
theorem q_1291 : (Cond.methodLink "FlatPlanLaw" (258 : Nat) ({ cls := "FlatPlanLaw", name := "eviction", desc := "(LFlatPlan;II[J)I" } : Jvm.MethodName)) ∈ gtbl := gt6 (i := 91) rfl rfl
theorem q_1292 : (Cond.static ({ cls := "FlatPlanLaw", name := "eviction", desc := "(LFlatPlan;II[J)I" } : Jvm.MethodName)) ∈ gtbl := gt6 (i := 92) rfl rfl
theorem q_1293 : (Cond.codeWith ({ cls := "FlatPlanLaw", name := "eviction", desc := "(LFlatPlan;II[J)I" } : Jvm.MethodName) method_28_code (5 : Nat) (Option.some FieldType.int) [((0 : Nat), (10 : Nat), (13 : Nat), (19 : Nat))]) ∈ gtbl := gt6 (i := 93) rfl rfl
theorem q_1294 : (Cond.methodLink "FlatPlanLaw" (94 : Nat) ({ cls := "FlatPlan", name := "eviction", desc := "(II)I" } : Jvm.MethodName)) ∈ gtbl := gt6 (i := 94) rfl rfl
theorem q_1295 : (Cond.instanceMethod ({ cls := "FlatPlan", name := "eviction", desc := "(II)I" } : Jvm.MethodName)) ∈ gtbl := gt6 (i := 95) rfl rfl
theorem q_1296 : (Cond.selects "FlatPlan" ({ cls := "FlatPlan", name := "eviction", desc := "(II)I" } : Jvm.MethodName) ({ cls := "FlatPlan", name := "eviction", desc := "(II)I" } : Jvm.MethodName)) ∈ gtbl := gt6 (i := 96) rfl rfl
theorem q_1297 : (Cond.code ({ cls := "FlatPlan", name := "eviction", desc := "(II)I" } : Jvm.MethodName) prog_1_method_39_code (3 : Nat) (Option.some FieldType.int)) ∈ gtbl := gt6 (i := 97) rfl rfl
theorem q_1298 : (Cond.methodLink "FlatPlan" (295 : Nat) ({ cls := "FlatPlan$Searches", name := "evictedPrices", desc := "(II)I" } : Jvm.MethodName)) ∈ gtbl := gt6 (i := 98) rfl rfl
theorem q_1299 : (Cond.instanceMethod ({ cls := "FlatPlan$Searches", name := "evictedPrices", desc := "(II)I" } : Jvm.MethodName)) ∈ gtbl := gt6 (i := 99) rfl rfl
theorem q_1300 : (Cond.selects "FlatPlan$Searches" ({ cls := "FlatPlan$Searches", name := "evictedPrices", desc := "(II)I" } : Jvm.MethodName) ({ cls := "FlatPlan$Searches", name := "evictedPrices", desc := "(II)I" } : Jvm.MethodName)) ∈ gtbl := gt6 (i := 100) rfl rfl
theorem q_1301 : (Cond.code ({ cls := "FlatPlan$Searches", name := "evictedPrices", desc := "(II)I" } : Jvm.MethodName) prog_8_method_9_code (5 : Nat) (Option.some FieldType.int)) ∈ gtbl := gt6 (i := 101) rfl rfl
theorem q_1302 : (Cond.methodLink "FlatPlan$Searches" (112 : Nat) ({ cls := "FlatPlan$Plan", name := "isUnfit", desc := "(II)Z" } : Jvm.MethodName)) ∈ gtbl := gt6 (i := 102) rfl rfl
theorem q_1303 : (Cond.instanceMethod ({ cls := "FlatPlan$Plan", name := "isUnfit", desc := "(II)Z" } : Jvm.MethodName)) ∈ gtbl := gt6 (i := 103) rfl rfl
theorem q_1304 : (Cond.selects "FlatPlan$Plan" ({ cls := "FlatPlan$Plan", name := "isUnfit", desc := "(II)Z" } : Jvm.MethodName) ({ cls := "FlatPlan$Plan", name := "isUnfit", desc := "(II)Z" } : Jvm.MethodName)) ∈ gtbl := gt6 (i := 104) rfl rfl
theorem q_1305 : (Cond.code ({ cls := "FlatPlan$Plan", name := "isUnfit", desc := "(II)Z" } : Jvm.MethodName) prog_6_method_11_code (3 : Nat) (Option.some FieldType.boolean)) ∈ gtbl := gt6 (i := 105) rfl rfl
theorem q_1306 : (Cond.methodLink "FlatPlan$Searches" (118 : Nat) ({ cls := "FlatPlan$Searches", name := "rivalPricesBeside", desc := "(II)I" } : Jvm.MethodName)) ∈ gtbl := gt6 (i := 106) rfl rfl
theorem q_1308 : (Cond.instanceMethod ({ cls := "FlatPlan$Searches", name := "rivalPricesBeside", desc := "(II)I" } : Jvm.MethodName)) ∈ gtbl := gt6 (i := 108) rfl rfl
theorem q_1309 : (Cond.code ({ cls := "FlatPlan$Searches", name := "rivalPricesBeside", desc := "(II)I" } : Jvm.MethodName) prog_8_method_10_code (6 : Nat) (Option.some FieldType.int)) ∈ gtbl := gt6 (i := 109) rfl rfl
theorem q_1310 : (Cond.methodLink "FlatPlan$Searches" (124 : Nat) ({ cls := "FlatPlan$Ads", name := "areRivals", desc := "(II)Z" } : Jvm.MethodName)) ∈ gtbl := gt6 (i := 110) rfl rfl
theorem q_1311 : (Cond.methodLink "FlatPlan$Searches" (121 : Nat) ({ cls := "FlatPlan$Searches", name := "pricesForRoom", desc := "(II)I" } : Jvm.MethodName)) ∈ gtbl := gt6 (i := 111) rfl rfl
theorem q_1313 : (Cond.instanceMethod ({ cls := "FlatPlan$Searches", name := "pricesForRoom", desc := "(II)I" } : Jvm.MethodName)) ∈ gtbl := gt6 (i := 113) rfl rfl
theorem q_1314 : (Cond.code ({ cls := "FlatPlan$Searches", name := "pricesForRoom", desc := "(II)I" } : Jvm.MethodName) prog_8_method_11_code (7 : Nat) (Option.some FieldType.int)) ∈ gtbl := gt6 (i := 114) rfl rfl
theorem q_1315 : (Cond.methodLink "FlatPlan$Searches" (130 : Nat) ({ cls := "FlatPlan$Searches", name := "removedPrices", desc := "(IIII)I" } : Jvm.MethodName)) ∈ gtbl := gt6 (i := 115) rfl rfl
theorem q_1317 : (Cond.instanceMethod ({ cls := "FlatPlan$Searches", name := "removedPrices", desc := "(IIII)I" } : Jvm.MethodName)) ∈ gtbl := gt6 (i := 117) rfl rfl
theorem q_1318 : (Cond.code ({ cls := "FlatPlan$Searches", name := "removedPrices", desc := "(IIII)I" } : Jvm.MethodName) prog_8_method_12_code (8 : Nat) (Option.some FieldType.int)) ∈ gtbl := gt6 (i := 118) rfl rfl
theorem q_1319 : (Cond.methodLink "FlatPlan$Searches" (134 : Nat) ({ cls := "FlatPlan$Plan", name := "roomFor", desc := "(II)I" } : Jvm.MethodName)) ∈ gtbl := gt6 (i := 119) rfl rfl
theorem q_1320 : (Cond.methodLink "FlatPlanLaw" (261 : Nat) ({ cls := "FlatPlanLaw", name := "cheapestPage", desc := "(LFlatPlan;I[J)I" } : Jvm.MethodName)) ∈ gtbl := gt6 (i := 120) rfl rfl
theorem q_1321 : (Cond.static ({ cls := "FlatPlanLaw", name := "cheapestPage", desc := "(LFlatPlan;I[J)I" } : Jvm.MethodName)) ∈ gtbl := gt6 (i := 121) rfl rfl
theorem q_1322 : (Cond.codeWith ({ cls := "FlatPlanLaw", name := "cheapestPage", desc := "(LFlatPlan;I[J)I" } : Jvm.MethodName) method_29_code (4 : Nat) (Option.some FieldType.int) [((0 : Nat), (9 : Nat), (12 : Nat), (19 : Nat))]) ∈ gtbl := gt6 (i := 122) rfl rfl
theorem q_1323 : (Cond.methodLink "FlatPlanLaw" (97 : Nat) ({ cls := "FlatPlan", name := "cheapestPage", desc := "(I)I" } : Jvm.MethodName)) ∈ gtbl := gt6 (i := 123) rfl rfl
theorem q_1324 : (Cond.instanceMethod ({ cls := "FlatPlan", name := "cheapestPage", desc := "(I)I" } : Jvm.MethodName)) ∈ gtbl := gt6 (i := 124) rfl rfl
theorem q_1325 : (Cond.selects "FlatPlan" ({ cls := "FlatPlan", name := "cheapestPage", desc := "(I)I" } : Jvm.MethodName) ({ cls := "FlatPlan", name := "cheapestPage", desc := "(I)I" } : Jvm.MethodName)) ∈ gtbl := gt6 (i := 125) rfl rfl
theorem q_1326 : (Cond.code ({ cls := "FlatPlan", name := "cheapestPage", desc := "(I)I" } : Jvm.MethodName) prog_1_method_40_code (2 : Nat) (Option.some FieldType.int)) ∈ gtbl := gt6 (i := 126) rfl rfl
theorem q_1327 : (Cond.methodLink "FlatPlan" (298 : Nat) ({ cls := "FlatPlan$Searches", name := "cheapestFor", desc := "(I)I" } : Jvm.MethodName)) ∈ gtbl := gt6 (i := 127) rfl rfl
theorem q_1328 : (Cond.instanceMethod ({ cls := "FlatPlan$Searches", name := "cheapestFor", desc := "(I)I" } : Jvm.MethodName)) ∈ gtbl := gt6 (i := 128) rfl rfl
theorem q_1329 : (Cond.selects "FlatPlan$Searches" ({ cls := "FlatPlan$Searches", name := "cheapestFor", desc := "(I)I" } : Jvm.MethodName) ({ cls := "FlatPlan$Searches", name := "cheapestFor", desc := "(I)I" } : Jvm.MethodName)) ∈ gtbl := gt6 (i := 129) rfl rfl
theorem q_1330 : (Cond.code ({ cls := "FlatPlan$Searches", name := "cheapestFor", desc := "(I)I" } : Jvm.MethodName) prog_8_method_13_code (6 : Nat) (Option.some FieldType.int)) ∈ gtbl := gt6 (i := 130) rfl rfl
theorem q_1331 : (Cond.methodLink "FlatPlan$Searches" (137 : Nat) ({ cls := "FlatPlan$Searches", name := "evictedPrices", desc := "(II)I" } : Jvm.MethodName)) ∈ gtbl := gt6 (i := 131) rfl rfl
theorem q_1332 : (Cond.methodLink "FlatPlanLaw" (268 : Nat) ({ cls := "FlatPlanLaw", name := "bestColor", desc := "(LFlatPlan;I[J)I" } : Jvm.MethodName)) ∈ gtbl := gt6 (i := 132) rfl rfl
theorem q_1333 : (Cond.static ({ cls := "FlatPlanLaw", name := "bestColor", desc := "(LFlatPlan;I[J)I" } : Jvm.MethodName)) ∈ gtbl := gt6 (i := 133) rfl rfl
theorem q_1334 : (Cond.codeWith ({ cls := "FlatPlanLaw", name := "bestColor", desc := "(LFlatPlan;I[J)I" } : Jvm.MethodName) method_30_code (4 : Nat) (Option.some FieldType.int) [((0 : Nat), (9 : Nat), (12 : Nat), (13 : Nat))]) ∈ gtbl := gt6 (i := 134) rfl rfl
theorem q_1335 : (Cond.methodLink "FlatPlanLaw" (100 : Nat) ({ cls := "FlatPlan", name := "bestColor", desc := "(I)I" } : Jvm.MethodName)) ∈ gtbl := gt6 (i := 135) rfl rfl
theorem q_1336 : (Cond.instanceMethod ({ cls := "FlatPlan", name := "bestColor", desc := "(I)I" } : Jvm.MethodName)) ∈ gtbl := gt6 (i := 136) rfl rfl
theorem q_1337 : (Cond.selects "FlatPlan" ({ cls := "FlatPlan", name := "bestColor", desc := "(I)I" } : Jvm.MethodName) ({ cls := "FlatPlan", name := "bestColor", desc := "(I)I" } : Jvm.MethodName)) ∈ gtbl := gt6 (i := 137) rfl rfl
theorem q_1338 : (Cond.code ({ cls := "FlatPlan", name := "bestColor", desc := "(I)I" } : Jvm.MethodName) prog_1_method_42_code (2 : Nat) (Option.some FieldType.int)) ∈ gtbl := gt6 (i := 138) rfl rfl
theorem q_1340 : (Cond.methodLink "FlatPlan" (306 : Nat) ({ cls := "FlatPlan$Searches", name := "roomiestForms", desc := "(I)I" } : Jvm.MethodName)) ∈ gtbl := gt6 (i := 140) rfl rfl
theorem q_1341 : (Cond.instanceMethod ({ cls := "FlatPlan$Searches", name := "roomiestForms", desc := "(I)I" } : Jvm.MethodName)) ∈ gtbl := gt6 (i := 141) rfl rfl
theorem q_1342 : (Cond.selects "FlatPlan$Searches" ({ cls := "FlatPlan$Searches", name := "roomiestForms", desc := "(I)I" } : Jvm.MethodName) ({ cls := "FlatPlan$Searches", name := "roomiestForms", desc := "(I)I" } : Jvm.MethodName)) ∈ gtbl := gt6 (i := 142) rfl rfl
theorem q_1343 : (Cond.code ({ cls := "FlatPlan$Searches", name := "roomiestForms", desc := "(I)I" } : Jvm.MethodName) prog_8_method_18_code (6 : Nat) (Option.some FieldType.int)) ∈ gtbl := gt6 (i := 143) rfl rfl
theorem q_1344 : (Cond.methodLink "FlatPlan$Searches" (159 : Nat) ({ cls := "java/lang/Integer", name := "bitCount", desc := "(I)I" } : Jvm.MethodName)) ∈ gtbl := gt6 (i := 144) rfl rfl
theorem q_1345 : (Cond.static ({ cls := "java/lang/Integer", name := "bitCount", desc := "(I)I" } : Jvm.MethodName)) ∈ gtbl := gt6 (i := 145) rfl rfl
theorem q_1346 : (Cond.code ({ cls := "java/lang/Integer", name := "bitCount", desc := "(I)I" } : Jvm.MethodName) prog_19_method_49_code (1 : Nat) (Option.some FieldType.int)) ∈ gtbl := gt6 (i := 146) rfl rfl
theorem q_1347 : (Cond.constant "java/lang/Integer" (265 : Nat) (1431655765 : Int32)) ∈ gtbl := gt6 (i := 147) rfl rfl
theorem q_1348 : (Cond.constant "java/lang/Integer" (266 : Nat) (858993459 : Int32)) ∈ gtbl := gt6 (i := 148) rfl rfl
theorem q_1349 : (Cond.constant "java/lang/Integer" (267 : Nat) (252645135 : Int32)) ∈ gtbl := gt6 (i := 149) rfl rfl
theorem q_1350 : (Cond.methodLink "FlatPlan$Searches" (164 : Nat) ({ cls := "FlatPlan$Searches", name := "leftOnSet", desc := "(I)I" } : Jvm.MethodName)) ∈ gtbl := gt6 (i := 150) rfl rfl
theorem q_1352 : (Cond.instanceMethod ({ cls := "FlatPlan$Searches", name := "leftOnSet", desc := "(I)I" } : Jvm.MethodName)) ∈ gtbl := gt6 (i := 152) rfl rfl
theorem q_1353 : (Cond.code ({ cls := "FlatPlan$Searches", name := "leftOnSet", desc := "(I)I" } : Jvm.MethodName) prog_8_method_19_code (4 : Nat) (Option.some FieldType.int)) ∈ gtbl := gt6 (i := 153) rfl rfl
theorem q_1354 : (Cond.methodLink "FlatPlan$Searches" (178 : Nat) ({ cls := "FlatPlan$Plan", name := "leftOnForm", desc := "(I)I" } : Jvm.MethodName)) ∈ gtbl := gt6 (i := 154) rfl rfl
theorem q_1355 : (Cond.methodLink "FlatPlanLaw" (275 : Nat) ({ cls := "FlatPlanLaw", name := "groupOn", desc := "(LFlatPlan;II[J)I" } : Jvm.MethodName)) ∈ gtbl := gt6 (i := 155) rfl rfl
theorem q_1356 : (Cond.static ({ cls := "FlatPlanLaw", name := "groupOn", desc := "(LFlatPlan;II[J)I" } : Jvm.MethodName)) ∈ gtbl := gt6 (i := 156) rfl rfl
theorem q_1357 : (Cond.codeWith ({ cls := "FlatPlanLaw", name := "groupOn", desc := "(LFlatPlan;II[J)I" } : Jvm.MethodName) method_31_code (5 : Nat) (Option.some FieldType.int) [((0 : Nat), (10 : Nat), (13 : Nat), (13 : Nat))]) ∈ gtbl := gt6 (i := 157) rfl rfl
theorem q_1358 : (Cond.methodLink "FlatPlanLaw" (103 : Nat) ({ cls := "FlatPlan", name := "groupOn", desc := "(II)I" } : Jvm.MethodName)) ∈ gtbl := gt6 (i := 158) rfl rfl
theorem q_1359 : (Cond.instanceMethod ({ cls := "FlatPlan", name := "groupOn", desc := "(II)I" } : Jvm.MethodName)) ∈ gtbl := gt6 (i := 159) rfl rfl
theorem q_1360 : (Cond.selects "FlatPlan" ({ cls := "FlatPlan", name := "groupOn", desc := "(II)I" } : Jvm.MethodName) ({ cls := "FlatPlan", name := "groupOn", desc := "(II)I" } : Jvm.MethodName)) ∈ gtbl := gt6 (i := 160) rfl rfl
theorem q_1361 : (Cond.code ({ cls := "FlatPlan", name := "groupOn", desc := "(II)I" } : Jvm.MethodName) prog_1_method_49_code (3 : Nat) (Option.some FieldType.int)) ∈ gtbl := gt6 (i := 161) rfl rfl
theorem q_1362 : (Cond.methodLink "FlatPlan" (329 : Nat) ({ cls := "FlatPlan", name := "needGroup", desc := "(I)V" } : Jvm.MethodName)) ∈ gtbl := gt6 (i := 162) rfl rfl
theorem q_1363 : (Cond.static ({ cls := "FlatPlan", name := "needGroup", desc := "(I)V" } : Jvm.MethodName)) ∈ gtbl := gt6 (i := 163) rfl rfl
theorem q_1364 : (Cond.code ({ cls := "FlatPlan", name := "needGroup", desc := "(I)V" } : Jvm.MethodName) prog_1_method_68_code (1 : Nat) (Option.none : Option FieldType)) ∈ gtbl := gt6 (i := 164) rfl rfl
theorem q_1367 : (Cond.methodLink "FlatPlanLaw" (278 : Nat) ({ cls := "FlatPlanLaw", name := "spreadsOf", desc := "(LFlatPlan;I[J)I" } : Jvm.MethodName)) ∈ gtbl := gt6 (i := 167) rfl rfl
theorem q_1368 : (Cond.static ({ cls := "FlatPlanLaw", name := "spreadsOf", desc := "(LFlatPlan;I[J)I" } : Jvm.MethodName)) ∈ gtbl := gt6 (i := 168) rfl rfl
theorem q_1369 : (Cond.codeWith ({ cls := "FlatPlanLaw", name := "spreadsOf", desc := "(LFlatPlan;I[J)I" } : Jvm.MethodName) method_32_code (4 : Nat) (Option.some FieldType.int) [((0 : Nat), (9 : Nat), (12 : Nat), (13 : Nat))]) ∈ gtbl := gt6 (i := 169) rfl rfl
theorem q_1370 : (Cond.methodLink "FlatPlanLaw" (106 : Nat) ({ cls := "FlatPlan", name := "spreadsOf", desc := "(I)I" } : Jvm.MethodName)) ∈ gtbl := gt6 (i := 170) rfl rfl
theorem q_1371 : (Cond.instanceMethod ({ cls := "FlatPlan", name := "spreadsOf", desc := "(I)I" } : Jvm.MethodName)) ∈ gtbl := gt6 (i := 171) rfl rfl
theorem q_1372 : (Cond.selects "FlatPlan" ({ cls := "FlatPlan", name := "spreadsOf", desc := "(I)I" } : Jvm.MethodName) ({ cls := "FlatPlan", name := "spreadsOf", desc := "(I)I" } : Jvm.MethodName)) ∈ gtbl := gt6 (i := 172) rfl rfl
theorem q_1373 : (Cond.code ({ cls := "FlatPlan", name := "spreadsOf", desc := "(I)I" } : Jvm.MethodName) prog_1_method_50_code (4 : Nat) (Option.some FieldType.int)) ∈ gtbl := gt6 (i := 173) rfl rfl
theorem q_1374 : (Cond.methodLink "FlatPlanLaw" (285 : Nat) ({ cls := "FlatPlanLaw", name := "revenueOf", desc := "(LFlatPlan;I[J)I" } : Jvm.MethodName)) ∈ gtbl := gt6 (i := 174) rfl rfl
theorem q_1375 : (Cond.static ({ cls := "FlatPlanLaw", name := "revenueOf", desc := "(LFlatPlan;I[J)I" } : Jvm.MethodName)) ∈ gtbl := gt6 (i := 175) rfl rfl
theorem q_1376 : (Cond.codeWith ({ cls := "FlatPlanLaw", name := "revenueOf", desc := "(LFlatPlan;I[J)I" } : Jvm.MethodName) method_33_code (4 : Nat) (Option.some FieldType.int) [((0 : Nat), (9 : Nat), (12 : Nat), (19 : Nat))]) ∈ gtbl := gt6 (i := 176) rfl rfl
theorem q_1377 : (Cond.methodLink "FlatPlanLaw" (109 : Nat) ({ cls := "FlatPlan", name := "revenueOf", desc := "(I)I" } : Jvm.MethodName)) ∈ gtbl := gt6 (i := 177) rfl rfl
theorem q_1378 : (Cond.instanceMethod ({ cls := "FlatPlan", name := "revenueOf", desc := "(I)I" } : Jvm.MethodName)) ∈ gtbl := gt6 (i := 178) rfl rfl
theorem q_1379 : (Cond.selects "FlatPlan" ({ cls := "FlatPlan", name := "revenueOf", desc := "(I)I" } : Jvm.MethodName) ({ cls := "FlatPlan", name := "revenueOf", desc := "(I)I" } : Jvm.MethodName)) ∈ gtbl := gt6 (i := 179) rfl rfl
theorem q_1380 : (Cond.code ({ cls := "FlatPlan", name := "revenueOf", desc := "(I)I" } : Jvm.MethodName) prog_1_method_52_code (5 : Nat) (Option.some FieldType.int)) ∈ gtbl := gt6 (i := 180) rfl rfl
theorem q_1381 : (Cond.methodLink "FlatPlanLaw" (288 : Nat) ({ cls := "FlatPlanLaw", name := "revenueOfGroup", desc := "(LFlatPlan;I[J)I" } : Jvm.MethodName)) ∈ gtbl := gt6 (i := 181) rfl rfl
theorem q_1382 : (Cond.static ({ cls := "FlatPlanLaw", name := "revenueOfGroup", desc := "(LFlatPlan;I[J)I" } : Jvm.MethodName)) ∈ gtbl := gt6 (i := 182) rfl rfl
theorem q_1383 : (Cond.codeWith ({ cls := "FlatPlanLaw", name := "revenueOfGroup", desc := "(LFlatPlan;I[J)I" } : Jvm.MethodName) method_34_code (4 : Nat) (Option.some FieldType.int) [((0 : Nat), (9 : Nat), (12 : Nat), (13 : Nat))]) ∈ gtbl := gt6 (i := 183) rfl rfl
theorem q_1384 : (Cond.methodLink "FlatPlanLaw" (112 : Nat) ({ cls := "FlatPlan", name := "revenueOfGroup", desc := "(I)I" } : Jvm.MethodName)) ∈ gtbl := gt6 (i := 184) rfl rfl
theorem q_1385 : (Cond.instanceMethod ({ cls := "FlatPlan", name := "revenueOfGroup", desc := "(I)I" } : Jvm.MethodName)) ∈ gtbl := gt6 (i := 185) rfl rfl
theorem q_1386 : (Cond.selects "FlatPlan" ({ cls := "FlatPlan", name := "revenueOfGroup", desc := "(I)I" } : Jvm.MethodName) ({ cls := "FlatPlan", name := "revenueOfGroup", desc := "(I)I" } : Jvm.MethodName)) ∈ gtbl := gt6 (i := 186) rfl rfl
theorem q_1387 : (Cond.code ({ cls := "FlatPlan", name := "revenueOfGroup", desc := "(I)I" } : Jvm.MethodName) prog_1_method_53_code (5 : Nat) (Option.some FieldType.int)) ∈ gtbl := gt6 (i := 187) rfl rfl
theorem q_1388 : (Cond.methodLink "FlatPlanLaw" (311 : Nat) ({ cls := "FlatPlanLaw", name := "emptyRun", desc := "(LFlatPlan;I[J)I" } : Jvm.MethodName)) ∈ gtbl := gt6 (i := 188) rfl rfl
theorem q_1389 : (Cond.static ({ cls := "FlatPlanLaw", name := "emptyRun", desc := "(LFlatPlan;I[J)I" } : Jvm.MethodName)) ∈ gtbl := gt6 (i := 189) rfl rfl
theorem q_1390 : (Cond.codeWith ({ cls := "FlatPlanLaw", name := "emptyRun", desc := "(LFlatPlan;I[J)I" } : Jvm.MethodName) method_35_code (4 : Nat) (Option.some FieldType.int) [((0 : Nat), (9 : Nat), (12 : Nat), (13 : Nat))]) ∈ gtbl := gt6 (i := 190) rfl rfl
theorem q_1391 : (Cond.methodLink "FlatPlanLaw" (115 : Nat) ({ cls := "FlatPlan", name := "emptyRun", desc := "(I)I" } : Jvm.MethodName)) ∈ gtbl := gt6 (i := 191) rfl rfl
theorem q_1392 : (Cond.instanceMethod ({ cls := "FlatPlan", name := "emptyRun", desc := "(I)I" } : Jvm.MethodName)) ∈ gtbl := gt6 (i := 192) rfl rfl
theorem q_1393 : (Cond.selects "FlatPlan" ({ cls := "FlatPlan", name := "emptyRun", desc := "(I)I" } : Jvm.MethodName) ({ cls := "FlatPlan", name := "emptyRun", desc := "(I)I" } : Jvm.MethodName)) ∈ gtbl := gt6 (i := 193) rfl rfl
theorem q_1394 : (Cond.code ({ cls := "FlatPlan", name := "emptyRun", desc := "(I)I" } : Jvm.MethodName) prog_1_method_46_code (4 : Nat) (Option.some FieldType.int)) ∈ gtbl := gt6 (i := 194) rfl rfl
theorem q_1396 : (Cond.methodLink "FlatPlanLaw" (322 : Nat) ({ cls := "FlatPlanLaw", name := "quarterPrice", desc := "(LFlatPlan;[D)I" } : Jvm.MethodName)) ∈ gtbl := gt6 (i := 196) rfl rfl
theorem q_1397 : (Cond.static ({ cls := "FlatPlanLaw", name := "quarterPrice", desc := "(LFlatPlan;[D)I" } : Jvm.MethodName)) ∈ gtbl := gt6 (i := 197) rfl rfl
theorem q_1398 : (Cond.codeWith ({ cls := "FlatPlanLaw", name := "quarterPrice", desc := "(LFlatPlan;[D)I" } : Jvm.MethodName) method_36_code (3 : Nat) (Option.some FieldType.int) [((0 : Nat), (7 : Nat), (10 : Nat), (122 : Nat))]) ∈ gtbl := gt6 (i := 198) rfl rfl
theorem q_1399 : (Cond.classLink "FlatPlanLaw" (122 : Nat) "java/lang/ArithmeticException") ∈ gtbl := gt6 (i := 199) rfl rfl
theorem q_1400 : (Cond.instantiable "java/lang/ArithmeticException" (6 : Nat)) ∈ gtbl := gt6 (i := 200) rfl rfl
theorem q_1401 : (Cond.instanceMethod ({ cls := "java/lang/ArithmeticException", name := "<init>", desc := "(Ljava/lang/String;)V" } : Jvm.MethodName)) ∈ gtbl := gt6 (i := 201) rfl rfl
theorem q_1402 : (Cond.code ({ cls := "java/lang/ArithmeticException", name := "<init>", desc := "(Ljava/lang/String;)V" } : Jvm.MethodName) prog_14_method_2_code (2 : Nat) (Option.none : Option FieldType)) ∈ gtbl := gt6 (i := 202) rfl rfl
theorem q_1403 : (Cond.methodLink "java/lang/ArithmeticException" (7 : Nat) ({ cls := "java/lang/RuntimeException", name := "<init>", desc := "(Ljava/lang/String;)V" } : Jvm.MethodName)) ∈ gtbl := gt6 (i := 203) rfl rfl
theorem q_1404 : (Cond.lays "java/lang/ArithmeticException" "java/lang/Throwable" "backtrace" "Ljava/lang/Object;") ∈ gtbl := gt6 (i := 204) rfl rfl
theorem q_1405 : (Cond.lays "java/lang/ArithmeticException" "java/lang/Throwable" "detailMessage" "Ljava/lang/String;") ∈ gtbl := gt6 (i := 205) rfl rfl
theorem q_1406 : (Cond.lays "java/lang/ArithmeticException" "java/lang/Throwable" "cause" "Ljava/lang/Throwable;") ∈ gtbl := gt6 (i := 206) rfl rfl
theorem q_1407 : (Cond.lays "java/lang/ArithmeticException" "java/lang/Throwable" "stackTrace" "[Ljava/lang/StackTraceElement;") ∈ gtbl := gt6 (i := 207) rfl rfl
theorem q_1408 : (Cond.lays "java/lang/ArithmeticException" "java/lang/Throwable" "depth" "I") ∈ gtbl := gt6 (i := 208) rfl rfl
theorem q_1409 : (Cond.lays "java/lang/ArithmeticException" "java/lang/Throwable" "suppressedExceptions" "Ljava/util/List;") ∈ gtbl := gt6 (i := 209) rfl rfl
theorem q_1412 : (Cond.selects "java/lang/ArithmeticException" ({ cls := "java/lang/Throwable", name := "fillInStackTrace", desc := "(I)Ljava/lang/Throwable;" } : Jvm.MethodName) ({ cls := "java/lang/Throwable", name := "fillInStackTrace", desc := "(I)Ljava/lang/Throwable;" } : Jvm.MethodName)) ∈ gtbl := gt6 (i := 212) rfl rfl
theorem q_1413 : (Cond.methodLink "FlatPlanLaw" (118 : Nat) ({ cls := "FlatPlan", name := "quarterPrice", desc := "()D" } : Jvm.MethodName)) ∈ gtbl := gt6 (i := 213) rfl rfl
theorem q_1414 : (Cond.instanceMethod ({ cls := "FlatPlan", name := "quarterPrice", desc := "()D" } : Jvm.MethodName)) ∈ gtbl := gt6 (i := 214) rfl rfl
theorem q_1415 : (Cond.selects "FlatPlan" ({ cls := "FlatPlan", name := "quarterPrice", desc := "()D" } : Jvm.MethodName) ({ cls := "FlatPlan", name := "quarterPrice", desc := "()D" } : Jvm.MethodName)) ∈ gtbl := gt6 (i := 215) rfl rfl
theorem q_1416 : (Cond.code ({ cls := "FlatPlan", name := "quarterPrice", desc := "()D" } : Jvm.MethodName) prog_1_method_57_code (4 : Nat) (Option.some FieldType.double)) ∈ gtbl := gt6 (i := 216) rfl rfl
theorem q_1417 : (Cond.classLink "FlatPlan" (343 : Nat) "java/lang/ArithmeticException") ∈ gtbl := gt6 (i := 217) rfl rfl
theorem q_1419 : (Cond.methodLink "FlatPlan" (347 : Nat) ({ cls := "java/lang/ArithmeticException", name := "<init>", desc := "(Ljava/lang/String;)V" } : Jvm.MethodName)) ∈ gtbl := gt6 (i := 219) rfl rfl
theorem q_1420 : (Cond.methodLink "FlatPlan" (348 : Nat) ({ cls := "FlatPlan", name := "revenue", desc := "()I" } : Jvm.MethodName)) ∈ gtbl := gt6 (i := 220) rfl rfl
theorem q_1421 : (Cond.methodLink "FlatPlanLaw" (326 : Nat) ({ cls := "FlatPlanLaw", name := "describe", desc := "(LFlatPlan;I[J)I" } : Jvm.MethodName)) ∈ gtbl := gt6 (i := 221) rfl rfl
theorem q_1422 : (Cond.static ({ cls := "FlatPlanLaw", name := "describe", desc := "(LFlatPlan;I[J)I" } : Jvm.MethodName)) ∈ gtbl := gt6 (i := 222) rfl rfl
theorem q_1423 : (Cond.codeWith ({ cls := "FlatPlanLaw", name := "describe", desc := "(LFlatPlan;I[J)I" } : Jvm.MethodName) method_37_code (4 : Nat) (Option.some FieldType.int) [((0 : Nat), (9 : Nat), (12 : Nat), (19 : Nat))]) ∈ gtbl := gt6 (i := 223) rfl rfl
theorem q_1424 : (Cond.methodLink "FlatPlanLaw" (124 : Nat) ({ cls := "FlatPlan", name := "describe", desc := "(I)I" } : Jvm.MethodName)) ∈ gtbl := gt6 (i := 224) rfl rfl
theorem q_1425 : (Cond.instanceMethod ({ cls := "FlatPlan", name := "describe", desc := "(I)I" } : Jvm.MethodName)) ∈ gtbl := gt6 (i := 225) rfl rfl
theorem q_1426 : (Cond.selects "FlatPlan" ({ cls := "FlatPlan", name := "describe", desc := "(I)I" } : Jvm.MethodName) ({ cls := "FlatPlan", name := "describe", desc := "(I)I" } : Jvm.MethodName)) ∈ gtbl := gt6 (i := 226) rfl rfl
theorem q_1427 : (Cond.code ({ cls := "FlatPlan", name := "describe", desc := "(I)I" } : Jvm.MethodName) prog_1_method_58_code (4 : Nat) (Option.some FieldType.int)) ∈ gtbl := gt6 (i := 227) rfl rfl
theorem q_1428 : (Cond.methodLink "FlatPlan" (351 : Nat) ({ cls := "FlatPlan$Bytes", name := "addItem", desc := "(CI)V" } : Jvm.MethodName)) ∈ gtbl := gt6 (i := 228) rfl rfl
theorem q_1429 : (Cond.instanceMethod ({ cls := "FlatPlan$Bytes", name := "addItem", desc := "(CI)V" } : Jvm.MethodName)) ∈ gtbl := gt6 (i := 229) rfl rfl
theorem q_1430 : (Cond.selects "FlatPlan$Bytes" ({ cls := "FlatPlan$Bytes", name := "addItem", desc := "(CI)V" } : Jvm.MethodName) ({ cls := "FlatPlan$Bytes", name := "addItem", desc := "(CI)V" } : Jvm.MethodName)) ∈ gtbl := gt6 (i := 230) rfl rfl
theorem q_1431 : (Cond.code ({ cls := "FlatPlan$Bytes", name := "addItem", desc := "(CI)V" } : Jvm.MethodName) prog_3_method_4_code (3 : Nat) (Option.none : Option FieldType)) ∈ gtbl := gt6 (i := 231) rfl rfl
theorem q_1432 : (Cond.classLink "FlatPlanLaw" (128 : Nat) "FlatPlanModel") ∈ gtbl := gt6 (i := 232) rfl rfl
theorem q_1433 : (Cond.instantiable "FlatPlanModel" (22 : Nat)) ∈ gtbl := gt6 (i := 233) rfl rfl
theorem q_1434 : (Cond.methodLink "FlatPlanLaw" (130 : Nat) ({ cls := "FlatPlanModel", name := "<init>", desc := "()V" } : Jvm.MethodName)) ∈ gtbl := gt6 (i := 234) rfl rfl
theorem q_1435 : (Cond.instanceMethod ({ cls := "FlatPlanModel", name := "<init>", desc := "()V" } : Jvm.MethodName)) ∈ gtbl := gt6 (i := 235) rfl rfl
theorem q_1436 : (Cond.code ({ cls := "FlatPlanModel", name := "<init>", desc := "()V" } : Jvm.MethodName) prog_13_method_1_code (1 : Nat) (Option.none : Option FieldType)) ∈ gtbl := gt6 (i := 236) rfl rfl
theorem q_1437 : (Cond.methodLink "FlatPlanModel" (1 : Nat) ({ cls := "java/lang/Object", name := "<init>", desc := "()V" } : Jvm.MethodName)) ∈ gtbl := gt6 (i := 237) rfl rfl
theorem q_1438 : (Cond.methodLink "FlatPlanModel" (49 : Nat) ({ cls := "FlatPlanModel", name := "clearBlock", desc := "(I)V" } : Jvm.MethodName)) ∈ gtbl := gt6 (i := 238) rfl rfl
theorem q_1440 : (Cond.instanceMethod ({ cls := "FlatPlanModel", name := "clearBlock", desc := "(I)V" } : Jvm.MethodName)) ∈ gtbl := gt7 (i := 0) rfl rfl
theorem q_1441 : (Cond.code ({ cls := "FlatPlanModel", name := "clearBlock", desc := "(I)V" } : Jvm.MethodName) prog_13_method_2_code (3 : Nat) (Option.none : Option FieldType)) ∈ gtbl := gt7 (i := 1) rfl rfl
theorem q_1442 : (Cond.fieldLink "FlatPlanModel" (7 : Nat) "FlatPlanModel" "state" "[I") ∈ gtbl := gt7 (i := 2) rfl rfl
theorem q_1443 : (Cond.fieldLink "FlatPlanModel" (13 : Nat) "FlatPlanModel" "signatures" "I") ∈ gtbl := gt7 (i := 3) rfl rfl
theorem q_1444 : (Cond.fieldLink "FlatPlanModel" (17 : Nat) "FlatPlanModel" "pagesEach" "I") ∈ gtbl := gt7 (i := 4) rfl rfl
theorem q_1445 : (Cond.fieldLink "FlatPlanModel" (56 : Nat) "FlatPlanModel" "undoMany" "I") ∈ gtbl := gt7 (i := 5) rfl rfl
theorem q_1446 : (Cond.fieldLink "FlatPlanModel" (53 : Nat) "FlatPlanModel" "thrown" "I") ∈ gtbl := gt7 (i := 6) rfl rfl
theorem q_1447 : (Cond.fieldLink "FlatPlanModel" (20 : Nat) "FlatPlanModel" "asked" "[Z") ∈ gtbl := gt7 (i := 7) rfl rfl
theorem q_1448 : (Cond.fieldLink "FlatPlanModel" (24 : Nat) "FlatPlanModel" "others" "[I") ∈ gtbl := gt7 (i := 8) rfl rfl
theorem q_1449 : (Cond.fieldLink "FlatPlanModel" (27 : Nat) "FlatPlanModel" "adOfPage" "[I") ∈ gtbl := gt7 (i := 9) rfl rfl
theorem q_1450 : (Cond.fieldLink "FlatPlanModel" (30 : Nat) "FlatPlanModel" "cameFrom" "[I") ∈ gtbl := gt7 (i := 10) rfl rfl
theorem q_1451 : (Cond.fieldLink "FlatPlanModel" (33 : Nat) "FlatPlanModel" "queue" "[I") ∈ gtbl := gt7 (i := 11) rfl rfl
theorem q_1452 : (Cond.fieldLink "FlatPlanModel" (36 : Nat) "FlatPlanModel" "fits" "[Z") ∈ gtbl := gt7 (i := 12) rfl rfl
theorem q_1453 : (Cond.fieldLink "FlatPlanModel" (39 : Nat) "FlatPlanModel" "described" "[I") ∈ gtbl := gt7 (i := 13) rfl rfl
theorem q_1454 : (Cond.fieldLink "FlatPlanModel" (295 : Nat) "FlatPlanModel" "describedLength" "I") ∈ gtbl := gt7 (i := 14) rfl rfl
theorem q_1455 : (Cond.fieldLink "FlatPlanModel" (42 : Nat) "FlatPlanModel" "input" "[B") ∈ gtbl := gt7 (i := 15) rfl rfl
theorem q_1456 : (Cond.fieldLink "FlatPlanModel" (304 : Nat) "FlatPlanModel" "inputLength" "I") ∈ gtbl := gt7 (i := 16) rfl rfl
theorem q_1457 : (Cond.fieldLink "FlatPlanModel" (321 : Nat) "FlatPlanModel" "next" "I") ∈ gtbl := gt7 (i := 17) rfl rfl
theorem q_1458 : (Cond.fieldLink "FlatPlanModel" (310 : Nat) "FlatPlanModel" "errorCode" "I") ∈ gtbl := gt7 (i := 18) rfl rfl
theorem q_1459 : (Cond.fieldLink "FlatPlanModel" (46 : Nat) "FlatPlanModel" "errorPosition" "I") ∈ gtbl := gt7 (i := 19) rfl rfl
theorem q_1460 : (Cond.fieldLink "FlatPlanModel" (340 : Nat) "FlatPlanModel" "kind" "I") ∈ gtbl := gt7 (i := 20) rfl rfl
theorem q_1461 : (Cond.fieldLink "FlatPlanModel" (327 : Nat) "FlatPlanModel" "start" "I") ∈ gtbl := gt7 (i := 21) rfl rfl
theorem q_1462 : (Cond.fieldLink "FlatPlanModel" (352 : Nat) "FlatPlanModel" "number" "I") ∈ gtbl := gt7 (i := 22) rfl rfl
theorem q_1463 : (Cond.fieldLink "FlatPlanModel" (330 : Nat) "FlatPlanModel" "value" "J") ∈ gtbl := gt7 (i := 23) rfl rfl
theorem q_1464 : (Cond.laysFinal "FlatPlanModel" "FlatPlanModel" "state" "[I") ∈ gtbl := gt7 (i := 24) rfl rfl
theorem q_1466 : (Cond.lays "FlatPlanModel" "FlatPlanModel" "signatures" "I") ∈ gtbl := gt7 (i := 26) rfl rfl
theorem q_1468 : (Cond.lays "FlatPlanModel" "FlatPlanModel" "pagesEach" "I") ∈ gtbl := gt7 (i := 28) rfl rfl
theorem q_1470 : (Cond.lays "FlatPlanModel" "FlatPlanModel" "undoMany" "I") ∈ gtbl := gt7 (i := 30) rfl rfl
theorem q_1472 : (Cond.lays "FlatPlanModel" "FlatPlanModel" "thrown" "I") ∈ gtbl := gt7 (i := 32) rfl rfl
theorem q_1474 : (Cond.laysFinal "FlatPlanModel" "FlatPlanModel" "asked" "[Z") ∈ gtbl := gt7 (i := 34) rfl rfl
theorem q_1476 : (Cond.laysFinal "FlatPlanModel" "FlatPlanModel" "others" "[I") ∈ gtbl := gt7 (i := 36) rfl rfl
theorem q_1478 : (Cond.laysFinal "FlatPlanModel" "FlatPlanModel" "adOfPage" "[I") ∈ gtbl := gt7 (i := 38) rfl rfl
theorem q_1480 : (Cond.laysFinal "FlatPlanModel" "FlatPlanModel" "cameFrom" "[I") ∈ gtbl := gt7 (i := 40) rfl rfl
theorem q_1482 : (Cond.laysFinal "FlatPlanModel" "FlatPlanModel" "queue" "[I") ∈ gtbl := gt7 (i := 42) rfl rfl
theorem q_1484 : (Cond.laysFinal "FlatPlanModel" "FlatPlanModel" "fits" "[Z") ∈ gtbl := gt7 (i := 44) rfl rfl
theorem q_1486 : (Cond.laysFinal "FlatPlanModel" "FlatPlanModel" "described" "[I") ∈ gtbl := gt7 (i := 46) rfl rfl
theorem q_1488 : (Cond.lays "FlatPlanModel" "FlatPlanModel" "describedLength" "I") ∈ gtbl := gt7 (i := 48) rfl rfl
theorem q_1490 : (Cond.laysFinal "FlatPlanModel" "FlatPlanModel" "input" "[B") ∈ gtbl := gt7 (i := 50) rfl rfl
theorem q_1492 : (Cond.lays "FlatPlanModel" "FlatPlanModel" "inputLength" "I") ∈ gtbl := gt7 (i := 52) rfl rfl
theorem q_1494 : (Cond.lays "FlatPlanModel" "FlatPlanModel" "next" "I") ∈ gtbl := gt7 (i := 54) rfl rfl
theorem q_1496 : (Cond.lays "FlatPlanModel" "FlatPlanModel" "errorCode" "I") ∈ gtbl := gt7 (i := 56) rfl rfl
theorem q_1498 : (Cond.lays "FlatPlanModel" "FlatPlanModel" "errorPosition" "I") ∈ gtbl := gt7 (i := 58) rfl rfl
theorem q_1500 : (Cond.lays "FlatPlanModel" "FlatPlanModel" "kind" "I") ∈ gtbl := gt7 (i := 60) rfl rfl
theorem q_1502 : (Cond.lays "FlatPlanModel" "FlatPlanModel" "start" "I") ∈ gtbl := gt7 (i := 62) rfl rfl
theorem q_1504 : (Cond.lays "FlatPlanModel" "FlatPlanModel" "number" "I") ∈ gtbl := gt7 (i := 64) rfl rfl
theorem q_1506 : (Cond.lays "FlatPlanModel" "FlatPlanModel" "value" "J") ∈ gtbl := gt7 (i := 66) rfl rfl
theorem q_1509 : (Cond.arrayClass FieldType.boolean) ∈ gtbl := gt7 (i := 69) rfl rfl
theorem q_1510 : (Cond.methodLink "FlatPlanLaw" (163 : Nat) ({ cls := "FlatPlanModel", name := "thrown", desc := "()I" } : Jvm.MethodName)) ∈ gtbl := gt7 (i := 70) rfl rfl
theorem q_1511 : (Cond.instanceMethod ({ cls := "FlatPlanModel", name := "thrown", desc := "()I" } : Jvm.MethodName)) ∈ gtbl := gt7 (i := 71) rfl rfl
theorem q_1512 : (Cond.selects "FlatPlanModel" ({ cls := "FlatPlanModel", name := "thrown", desc := "()I" } : Jvm.MethodName) ({ cls := "FlatPlanModel", name := "thrown", desc := "()I" } : Jvm.MethodName)) ∈ gtbl := gt7 (i := 72) rfl rfl
theorem q_1513 : (Cond.code ({ cls := "FlatPlanModel", name := "thrown", desc := "()I" } : Jvm.MethodName) prog_13_method_4_code (1 : Nat) (Option.some FieldType.int)) ∈ gtbl := gt7 (i := 73) rfl rfl
theorem q_1514 : (Cond.methodLink "FlatPlanLaw" (341 : Nat) ({ cls := "FlatPlanModel", name := "undo", desc := "()Z" } : Jvm.MethodName)) ∈ gtbl := gt7 (i := 74) rfl rfl
theorem q_1515 : (Cond.instanceMethod ({ cls := "FlatPlanModel", name := "undo", desc := "()Z" } : Jvm.MethodName)) ∈ gtbl := gt7 (i := 75) rfl rfl
theorem q_1516 : (Cond.selects "FlatPlanModel" ({ cls := "FlatPlanModel", name := "undo", desc := "()Z" } : Jvm.MethodName) ({ cls := "FlatPlanModel", name := "undo", desc := "()Z" } : Jvm.MethodName)) ∈ gtbl := gt7 (i := 76) rfl rfl
theorem q_1517 : (Cond.code ({ cls := "FlatPlanModel", name := "undo", desc := "()Z" } : Jvm.MethodName) prog_13_method_9_code (1 : Nat) (Option.some FieldType.boolean)) ∈ gtbl := gt7 (i := 77) rfl rfl
theorem q_1518 : (Cond.methodLink "FlatPlanModel" (59 : Nat) ({ cls := "FlatPlanModel", name := "copyBlock", desc := "(II)V" } : Jvm.MethodName)) ∈ gtbl := gt7 (i := 78) rfl rfl
theorem q_1520 : (Cond.instanceMethod ({ cls := "FlatPlanModel", name := "copyBlock", desc := "(II)V" } : Jvm.MethodName)) ∈ gtbl := gt7 (i := 80) rfl rfl
theorem q_1521 : (Cond.code ({ cls := "FlatPlanModel", name := "copyBlock", desc := "(II)V" } : Jvm.MethodName) prog_13_method_3_code (4 : Nat) (Option.none : Option FieldType)) ∈ gtbl := gt7 (i := 81) rfl rfl
theorem q_1522 : (Cond.methodLink "FlatPlanLaw" (345 : Nat) ({ cls := "FlatPlanModel", name := "undoCount", desc := "()I" } : Jvm.MethodName)) ∈ gtbl := gt7 (i := 82) rfl rfl
theorem q_1523 : (Cond.instanceMethod ({ cls := "FlatPlanModel", name := "undoCount", desc := "()I" } : Jvm.MethodName)) ∈ gtbl := gt7 (i := 83) rfl rfl
theorem q_1524 : (Cond.selects "FlatPlanModel" ({ cls := "FlatPlanModel", name := "undoCount", desc := "()I" } : Jvm.MethodName) ({ cls := "FlatPlanModel", name := "undoCount", desc := "()I" } : Jvm.MethodName)) ∈ gtbl := gt7 (i := 84) rfl rfl
theorem q_1525 : (Cond.code ({ cls := "FlatPlanModel", name := "undoCount", desc := "()I" } : Jvm.MethodName) prog_13_method_10_code (1 : Nat) (Option.some FieldType.int)) ∈ gtbl := gt7 (i := 85) rfl rfl
theorem q_1526 : (Cond.methodLink "FlatPlanLaw" (197 : Nat) ({ cls := "FlatPlanModel", name := "reason", desc := "(II)I" } : Jvm.MethodName)) ∈ gtbl := gt7 (i := 86) rfl rfl
theorem q_1527 : (Cond.instanceMethod ({ cls := "FlatPlanModel", name := "reason", desc := "(II)I" } : Jvm.MethodName)) ∈ gtbl := gt7 (i := 87) rfl rfl
theorem q_1528 : (Cond.selects "FlatPlanModel" ({ cls := "FlatPlanModel", name := "reason", desc := "(II)I" } : Jvm.MethodName) ({ cls := "FlatPlanModel", name := "reason", desc := "(II)I" } : Jvm.MethodName)) ∈ gtbl := gt7 (i := 88) rfl rfl
theorem q_1529 : (Cond.code ({ cls := "FlatPlanModel", name := "reason", desc := "(II)I" } : Jvm.MethodName) prog_13_method_42_code (3 : Nat) (Option.some FieldType.int)) ∈ gtbl := gt7 (i := 89) rfl rfl
theorem q_1530 : (Cond.methodLink "FlatPlanModel" (122 : Nat) ({ cls := "FlatPlanModel", name := "isAd", desc := "(I)Z" } : Jvm.MethodName)) ∈ gtbl := gt7 (i := 90) rfl rfl
theorem q_1532 : (Cond.instanceMethod ({ cls := "FlatPlanModel", name := "isAd", desc := "(I)Z" } : Jvm.MethodName)) ∈ gtbl := gt7 (i := 92) rfl rfl
theorem q_1533 : (Cond.code ({ cls := "FlatPlanModel", name := "isAd", desc := "(I)Z" } : Jvm.MethodName) prog_13_method_15_code (2 : Nat) (Option.some FieldType.boolean)) ∈ gtbl := gt7 (i := 93) rfl rfl
theorem q_1534 : (Cond.methodLink "FlatPlanModel" (67 : Nat) ({ cls := "FlatPlanModel", name := "inRange", desc := "(JJJ)Z" } : Jvm.MethodName)) ∈ gtbl := gt7 (i := 94) rfl rfl
theorem q_1535 : (Cond.static ({ cls := "FlatPlanModel", name := "inRange", desc := "(JJJ)Z" } : Jvm.MethodName)) ∈ gtbl := gt7 (i := 95) rfl rfl
theorem q_1536 : (Cond.code ({ cls := "FlatPlanModel", name := "inRange", desc := "(JJJ)Z" } : Jvm.MethodName) prog_13_method_6_code (6 : Nat) (Option.some FieldType.boolean)) ∈ gtbl := gt7 (i := 96) rfl rfl
theorem q_1537 : (Cond.methodLink "FlatPlanModel" (125 : Nat) ({ cls := "FlatPlanModel", name := "throwsIf", desc := "(ZI)Z" } : Jvm.MethodName)) ∈ gtbl := gt7 (i := 97) rfl rfl
theorem q_1539 : (Cond.instanceMethod ({ cls := "FlatPlanModel", name := "throwsIf", desc := "(ZI)Z" } : Jvm.MethodName)) ∈ gtbl := gt7 (i := 99) rfl rfl
theorem q_1540 : (Cond.code ({ cls := "FlatPlanModel", name := "throwsIf", desc := "(ZI)Z" } : Jvm.MethodName) prog_13_method_5_code (3 : Nat) (Option.some FieldType.boolean)) ∈ gtbl := gt7 (i := 100) rfl rfl
theorem q_1541 : (Cond.methodLink "FlatPlanModel" (129 : Nat) ({ cls := "FlatPlanModel", name := "reasonOf", desc := "(II)I" } : Jvm.MethodName)) ∈ gtbl := gt7 (i := 101) rfl rfl
theorem q_1543 : (Cond.instanceMethod ({ cls := "FlatPlanModel", name := "reasonOf", desc := "(II)I" } : Jvm.MethodName)) ∈ gtbl := gt7 (i := 103) rfl rfl
theorem q_1544 : (Cond.code ({ cls := "FlatPlanModel", name := "reasonOf", desc := "(II)I" } : Jvm.MethodName) prog_13_method_38_code (3 : Nat) (Option.some FieldType.int)) ∈ gtbl := gt7 (i := 104) rfl rfl
theorem q_1545 : (Cond.methodLink "FlatPlanModel" (105 : Nat) ({ cls := "FlatPlanModel", name := "isPage", desc := "(I)Z" } : Jvm.MethodName)) ∈ gtbl := gt7 (i := 105) rfl rfl
theorem q_1547 : (Cond.instanceMethod ({ cls := "FlatPlanModel", name := "isPage", desc := "(I)Z" } : Jvm.MethodName)) ∈ gtbl := gt7 (i := 107) rfl rfl
theorem q_1548 : (Cond.code ({ cls := "FlatPlanModel", name := "isPage", desc := "(I)Z" } : Jvm.MethodName) prog_13_method_13_code (2 : Nat) (Option.some FieldType.boolean)) ∈ gtbl := gt7 (i := 108) rfl rfl
theorem q_1549 : (Cond.methodLink "FlatPlanModel" (63 : Nat) ({ cls := "FlatPlanModel", name := "pageMany", desc := "()I" } : Jvm.MethodName)) ∈ gtbl := gt7 (i := 109) rfl rfl
theorem q_1551 : (Cond.instanceMethod ({ cls := "FlatPlanModel", name := "pageMany", desc := "()I" } : Jvm.MethodName)) ∈ gtbl := gt7 (i := 111) rfl rfl
theorem q_1552 : (Cond.code ({ cls := "FlatPlanModel", name := "pageMany", desc := "()I" } : Jvm.MethodName) prog_13_method_11_code (1 : Nat) (Option.some FieldType.int)) ∈ gtbl := gt7 (i := 112) rfl rfl
theorem q_1553 : (Cond.methodLink "FlatPlanModel" (109 : Nat) ({ cls := "FlatPlanModel", name := "isPrinted", desc := "(I)Z" } : Jvm.MethodName)) ∈ gtbl := gt7 (i := 113) rfl rfl
theorem q_1555 : (Cond.instanceMethod ({ cls := "FlatPlanModel", name := "isPrinted", desc := "(I)Z" } : Jvm.MethodName)) ∈ gtbl := gt7 (i := 115) rfl rfl
theorem q_1556 : (Cond.code ({ cls := "FlatPlanModel", name := "isPrinted", desc := "(I)Z" } : Jvm.MethodName) prog_13_method_25_code (2 : Nat) (Option.some FieldType.boolean)) ∈ gtbl := gt7 (i := 116) rfl rfl
theorem q_1557 : (Cond.methodLink "FlatPlanModel" (74 : Nat) ({ cls := "FlatPlanModel", name := "formOf", desc := "(I)I" } : Jvm.MethodName)) ∈ gtbl := gt7 (i := 117) rfl rfl
theorem q_1559 : (Cond.instanceMethod ({ cls := "FlatPlanModel", name := "formOf", desc := "(I)I" } : Jvm.MethodName)) ∈ gtbl := gt7 (i := 119) rfl rfl
theorem q_1560 : (Cond.code ({ cls := "FlatPlanModel", name := "formOf", desc := "(I)I" } : Jvm.MethodName) prog_13_method_18_code (3 : Nat) (Option.some FieldType.int)) ∈ gtbl := gt7 (i := 120) rfl rfl
theorem q_1561 : (Cond.methodLink "FlatPlanModel" (78 : Nat) ({ cls := "FlatPlanModel", name := "ofForm", desc := "(II)I" } : Jvm.MethodName)) ∈ gtbl := gt7 (i := 121) rfl rfl
theorem q_1563 : (Cond.instanceMethod ({ cls := "FlatPlanModel", name := "ofForm", desc := "(II)I" } : Jvm.MethodName)) ∈ gtbl := gt7 (i := 123) rfl rfl
theorem q_1564 : (Cond.code ({ cls := "FlatPlanModel", name := "ofForm", desc := "(II)I" } : Jvm.MethodName) prog_13_method_19_code (3 : Nat) (Option.some FieldType.int)) ∈ gtbl := gt7 (i := 124) rfl rfl
theorem q_1565 : (Cond.methodLink "FlatPlanModel" (102 : Nat) ({ cls := "FlatPlanModel", name := "leftOn", desc := "(III)I" } : Jvm.MethodName)) ∈ gtbl := gt7 (i := 125) rfl rfl
theorem q_1567 : (Cond.instanceMethod ({ cls := "FlatPlanModel", name := "leftOn", desc := "(III)I" } : Jvm.MethodName)) ∈ gtbl := gt7 (i := 127) rfl rfl
theorem q_1568 : (Cond.code ({ cls := "FlatPlanModel", name := "leftOn", desc := "(III)I" } : Jvm.MethodName) prog_13_method_34_code (4 : Nat) (Option.some FieldType.int)) ∈ gtbl := gt7 (i := 128) rfl rfl
theorem q_1569 : (Cond.methodLink "FlatPlanModel" (95 : Nat) ({ cls := "FlatPlanModel", name := "storyOn", desc := "(II)I" } : Jvm.MethodName)) ∈ gtbl := gt7 (i := 129) rfl rfl
theorem q_1571 : (Cond.instanceMethod ({ cls := "FlatPlanModel", name := "storyOn", desc := "(II)I" } : Jvm.MethodName)) ∈ gtbl := gt7 (i := 131) rfl rfl
theorem q_1572 : (Cond.code ({ cls := "FlatPlanModel", name := "storyOn", desc := "(II)I" } : Jvm.MethodName) prog_13_method_30_code (4 : Nat) (Option.some FieldType.int)) ∈ gtbl := gt7 (i := 132) rfl rfl
theorem q_1573 : (Cond.methodLink "FlatPlanModel" (88 : Nat) ({ cls := "FlatPlanModel", name := "covers", desc := "(II)Z" } : Jvm.MethodName)) ∈ gtbl := gt7 (i := 133) rfl rfl
theorem q_1575 : (Cond.instanceMethod ({ cls := "FlatPlanModel", name := "covers", desc := "(II)Z" } : Jvm.MethodName)) ∈ gtbl := gt7 (i := 135) rfl rfl
theorem q_1576 : (Cond.code ({ cls := "FlatPlanModel", name := "covers", desc := "(II)Z" } : Jvm.MethodName) prog_13_method_29_code (3 : Nat) (Option.some FieldType.boolean)) ∈ gtbl := gt7 (i := 136) rfl rfl
theorem q_1577 : (Cond.methodLink "FlatPlanModel" (85 : Nat) ({ cls := "FlatPlanModel", name := "ofStory", desc := "(II)I" } : Jvm.MethodName)) ∈ gtbl := gt7 (i := 137) rfl rfl
theorem q_1579 : (Cond.instanceMethod ({ cls := "FlatPlanModel", name := "ofStory", desc := "(II)I" } : Jvm.MethodName)) ∈ gtbl := gt7 (i := 139) rfl rfl
theorem q_1580 : (Cond.code ({ cls := "FlatPlanModel", name := "ofStory", desc := "(II)I" } : Jvm.MethodName) prog_13_method_23_code (3 : Nat) (Option.some FieldType.int)) ∈ gtbl := gt7 (i := 140) rfl rfl
theorem q_1581 : (Cond.methodLink "FlatPlanModel" (98 : Nat) ({ cls := "FlatPlanModel", name := "roomOn", desc := "(III)I" } : Jvm.MethodName)) ∈ gtbl := gt7 (i := 141) rfl rfl
theorem q_1583 : (Cond.instanceMethod ({ cls := "FlatPlanModel", name := "roomOn", desc := "(III)I" } : Jvm.MethodName)) ∈ gtbl := gt7 (i := 143) rfl rfl
theorem q_1584 : (Cond.code ({ cls := "FlatPlanModel", name := "roomOn", desc := "(III)I" } : Jvm.MethodName) prog_13_method_33_code (6 : Nat) (Option.some FieldType.int)) ∈ gtbl := gt7 (i := 144) rfl rfl
theorem q_1585 : (Cond.methodLink "FlatPlanModel" (82 : Nat) ({ cls := "FlatPlanModel", name := "ofAd", desc := "(II)I" } : Jvm.MethodName)) ∈ gtbl := gt7 (i := 145) rfl rfl
theorem q_1587 : (Cond.instanceMethod ({ cls := "FlatPlanModel", name := "ofAd", desc := "(II)I" } : Jvm.MethodName)) ∈ gtbl := gt7 (i := 147) rfl rfl
theorem q_1588 : (Cond.code ({ cls := "FlatPlanModel", name := "ofAd", desc := "(II)I" } : Jvm.MethodName) prog_13_method_21_code (3 : Nat) (Option.some FieldType.int)) ∈ gtbl := gt7 (i := 148) rfl rfl
theorem q_1589 : (Cond.methodLink "FlatPlanModel" (92 : Nat) ({ cls := "FlatPlanModel", name := "ofStandby", desc := "(II)I" } : Jvm.MethodName)) ∈ gtbl := gt7 (i := 149) rfl rfl
theorem q_1591 : (Cond.instanceMethod ({ cls := "FlatPlanModel", name := "ofStandby", desc := "(II)I" } : Jvm.MethodName)) ∈ gtbl := gt7 (i := 151) rfl rfl
theorem q_1592 : (Cond.code ({ cls := "FlatPlanModel", name := "ofStandby", desc := "(II)I" } : Jvm.MethodName) prog_13_method_24_code (3 : Nat) (Option.some FieldType.int)) ∈ gtbl := gt7 (i := 152) rfl rfl
theorem q_1593 : (Cond.methodLink "FlatPlanModel" (112 : Nat) ({ cls := "FlatPlanModel", name := "hasColor", desc := "(I)Z" } : Jvm.MethodName)) ∈ gtbl := gt7 (i := 153) rfl rfl
theorem q_1595 : (Cond.instanceMethod ({ cls := "FlatPlanModel", name := "hasColor", desc := "(I)Z" } : Jvm.MethodName)) ∈ gtbl := gt7 (i := 155) rfl rfl
theorem q_1596 : (Cond.code ({ cls := "FlatPlanModel", name := "hasColor", desc := "(I)Z" } : Jvm.MethodName) prog_13_method_26_code (2 : Nat) (Option.some FieldType.boolean)) ∈ gtbl := gt7 (i := 156) rfl rfl
theorem q_1597 : (Cond.methodLink "FlatPlanModel" (115 : Nat) ({ cls := "FlatPlanModel", name := "isOnSide", desc := "(II)Z" } : Jvm.MethodName)) ∈ gtbl := gt7 (i := 157) rfl rfl
theorem q_1598 : (Cond.static ({ cls := "FlatPlanModel", name := "isOnSide", desc := "(II)Z" } : Jvm.MethodName)) ∈ gtbl := gt7 (i := 158) rfl rfl
theorem q_1599 : (Cond.code ({ cls := "FlatPlanModel", name := "isOnSide", desc := "(II)Z" } : Jvm.MethodName) prog_13_method_36_code (2 : Nat) (Option.some FieldType.boolean)) ∈ gtbl := gt7 (i := 159) rfl rfl
theorem q_1600 : (Cond.methodLink "FlatPlanModel" (118 : Nat) ({ cls := "FlatPlanModel", name := "hasRival", desc := "(II)Z" } : Jvm.MethodName)) ∈ gtbl := gt7 (i := 160) rfl rfl
theorem q_1602 : (Cond.instanceMethod ({ cls := "FlatPlanModel", name := "hasRival", desc := "(II)Z" } : Jvm.MethodName)) ∈ gtbl := gt7 (i := 162) rfl rfl
theorem q_1603 : (Cond.code ({ cls := "FlatPlanModel", name := "hasRival", desc := "(II)Z" } : Jvm.MethodName) prog_13_method_37_code (5 : Nat) (Option.some FieldType.boolean)) ∈ gtbl := gt7 (i := 163) rfl rfl
theorem q_1604 : (Cond.methodLink "FlatPlanLaw" (200 : Nat) ({ cls := "FlatPlanModel", name := "storyReason", desc := "(II)I" } : Jvm.MethodName)) ∈ gtbl := gt7 (i := 164) rfl rfl
theorem q_1605 : (Cond.instanceMethod ({ cls := "FlatPlanModel", name := "storyReason", desc := "(II)I" } : Jvm.MethodName)) ∈ gtbl := gt7 (i := 165) rfl rfl
theorem q_1606 : (Cond.selects "FlatPlanModel" ({ cls := "FlatPlanModel", name := "storyReason", desc := "(II)I" } : Jvm.MethodName) ({ cls := "FlatPlanModel", name := "storyReason", desc := "(II)I" } : Jvm.MethodName)) ∈ gtbl := gt7 (i := 166) rfl rfl
theorem q_1607 : (Cond.code ({ cls := "FlatPlanModel", name := "storyReason", desc := "(II)I" } : Jvm.MethodName) prog_13_method_43_code (3 : Nat) (Option.some FieldType.int)) ∈ gtbl := gt7 (i := 167) rfl rfl
theorem q_1608 : (Cond.methodLink "FlatPlanModel" (132 : Nat) ({ cls := "FlatPlanModel", name := "isStory", desc := "(I)Z" } : Jvm.MethodName)) ∈ gtbl := gt7 (i := 168) rfl rfl
theorem q_1610 : (Cond.instanceMethod ({ cls := "FlatPlanModel", name := "isStory", desc := "(I)Z" } : Jvm.MethodName)) ∈ gtbl := gt7 (i := 170) rfl rfl
theorem q_1611 : (Cond.code ({ cls := "FlatPlanModel", name := "isStory", desc := "(I)Z" } : Jvm.MethodName) prog_13_method_16_code (2 : Nat) (Option.some FieldType.boolean)) ∈ gtbl := gt7 (i := 171) rfl rfl
theorem q_1612 : (Cond.methodLink "FlatPlanModel" (135 : Nat) ({ cls := "FlatPlanModel", name := "storyReasonOf", desc := "(II)I" } : Jvm.MethodName)) ∈ gtbl := gt7 (i := 172) rfl rfl
theorem q_1614 : (Cond.instanceMethod ({ cls := "FlatPlanModel", name := "storyReasonOf", desc := "(II)I" } : Jvm.MethodName)) ∈ gtbl := gt7 (i := 174) rfl rfl
theorem q_1615 : (Cond.code ({ cls := "FlatPlanModel", name := "storyReasonOf", desc := "(II)I" } : Jvm.MethodName) prog_13_method_39_code (7 : Nat) (Option.some FieldType.int)) ∈ gtbl := gt7 (i := 175) rfl rfl
theorem q_1616 : (Cond.constant "FlatPlanModel" (121 : Nat) (1000000 : Int32)) ∈ gtbl := gt7 (i := 176) rfl rfl
theorem q_1617 : (Cond.methodLink "FlatPlanLaw" (156 : Nat) ({ cls := "FlatPlanModel", name := "count", desc := "(I)I" } : Jvm.MethodName)) ∈ gtbl := gt7 (i := 177) rfl rfl
theorem q_1618 : (Cond.instanceMethod ({ cls := "FlatPlanModel", name := "count", desc := "(I)I" } : Jvm.MethodName)) ∈ gtbl := gt7 (i := 178) rfl rfl
theorem q_1619 : (Cond.selects "FlatPlanModel" ({ cls := "FlatPlanModel", name := "count", desc := "(I)I" } : Jvm.MethodName) ({ cls := "FlatPlanModel", name := "count", desc := "(I)I" } : Jvm.MethodName)) ∈ gtbl := gt7 (i := 179) rfl rfl
theorem q_1620 : (Cond.code ({ cls := "FlatPlanModel", name := "count", desc := "(I)I" } : Jvm.MethodName) prog_13_method_48_code (2 : Nat) (Option.some FieldType.int)) ∈ gtbl := gt7 (i := 180) rfl rfl
theorem q_1621 : (Cond.methodLink "FlatPlanModel" (71 : Nat) ({ cls := "FlatPlanModel", name := "formMany", desc := "()I" } : Jvm.MethodName)) ∈ gtbl := gt7 (i := 181) rfl rfl
theorem q_1623 : (Cond.instanceMethod ({ cls := "FlatPlanModel", name := "formMany", desc := "()I" } : Jvm.MethodName)) ∈ gtbl := gt7 (i := 183) rfl rfl
theorem q_1624 : (Cond.code ({ cls := "FlatPlanModel", name := "formMany", desc := "()I" } : Jvm.MethodName) prog_13_method_12_code (1 : Nat) (Option.some FieldType.int)) ∈ gtbl := gt7 (i := 184) rfl rfl
theorem q_1625 : (Cond.methodLink "FlatPlanModel" (138 : Nat) ({ cls := "FlatPlanModel", name := "placedAds", desc := "()I" } : Jvm.MethodName)) ∈ gtbl := gt7 (i := 185) rfl rfl
theorem q_1627 : (Cond.instanceMethod ({ cls := "FlatPlanModel", name := "placedAds", desc := "()I" } : Jvm.MethodName)) ∈ gtbl := gt7 (i := 187) rfl rfl
theorem q_1628 : (Cond.code ({ cls := "FlatPlanModel", name := "placedAds", desc := "()I" } : Jvm.MethodName) prog_13_method_44_code (3 : Nat) (Option.some FieldType.int)) ∈ gtbl := gt7 (i := 188) rfl rfl
theorem q_1629 : (Cond.methodLink "FlatPlanModel" (141 : Nat) ({ cls := "FlatPlanModel", name := "placedStories", desc := "()I" } : Jvm.MethodName)) ∈ gtbl := gt7 (i := 189) rfl rfl
theorem q_1631 : (Cond.instanceMethod ({ cls := "FlatPlanModel", name := "placedStories", desc := "()I" } : Jvm.MethodName)) ∈ gtbl := gt7 (i := 191) rfl rfl
theorem q_1632 : (Cond.code ({ cls := "FlatPlanModel", name := "placedStories", desc := "()I" } : Jvm.MethodName) prog_13_method_45_code (3 : Nat) (Option.some FieldType.int)) ∈ gtbl := gt7 (i := 192) rfl rfl
theorem q_1633 : (Cond.methodLink "FlatPlanModel" (144 : Nat) ({ cls := "FlatPlanModel", name := "usedStandbys", desc := "()I" } : Jvm.MethodName)) ∈ gtbl := gt7 (i := 193) rfl rfl
theorem q_1635 : (Cond.instanceMethod ({ cls := "FlatPlanModel", name := "usedStandbys", desc := "()I" } : Jvm.MethodName)) ∈ gtbl := gt7 (i := 195) rfl rfl
theorem q_1636 : (Cond.code ({ cls := "FlatPlanModel", name := "usedStandbys", desc := "()I" } : Jvm.MethodName) prog_13_method_46_code (3 : Nat) (Option.some FieldType.int)) ∈ gtbl := gt7 (i := 196) rfl rfl
theorem q_1637 : (Cond.methodLink "FlatPlanModel" (147 : Nat) ({ cls := "FlatPlanModel", name := "formsWith", desc := "(I)I" } : Jvm.MethodName)) ∈ gtbl := gt7 (i := 197) rfl rfl
theorem q_1639 : (Cond.instanceMethod ({ cls := "FlatPlanModel", name := "formsWith", desc := "(I)I" } : Jvm.MethodName)) ∈ gtbl := gt7 (i := 199) rfl rfl
theorem q_1640 : (Cond.code ({ cls := "FlatPlanModel", name := "formsWith", desc := "(I)I" } : Jvm.MethodName) prog_13_method_47_code (4 : Nat) (Option.some FieldType.int)) ∈ gtbl := gt7 (i := 200) rfl rfl
theorem q_1641 : (Cond.methodLink "FlatPlanLaw" (162 : Nat) ({ cls := "FlatPlanModel", name := "addAd", desc := "(IIII)I" } : Jvm.MethodName)) ∈ gtbl := gt7 (i := 201) rfl rfl
theorem q_1642 : (Cond.instanceMethod ({ cls := "FlatPlanModel", name := "addAd", desc := "(IIII)I" } : Jvm.MethodName)) ∈ gtbl := gt7 (i := 202) rfl rfl
theorem q_1643 : (Cond.selects "FlatPlanModel" ({ cls := "FlatPlanModel", name := "addAd", desc := "(IIII)I" } : Jvm.MethodName) ({ cls := "FlatPlanModel", name := "addAd", desc := "(IIII)I" } : Jvm.MethodName)) ∈ gtbl := gt7 (i := 203) rfl rfl
theorem q_1644 : (Cond.code ({ cls := "FlatPlanModel", name := "addAd", desc := "(IIII)I" } : Jvm.MethodName) prog_13_method_49_code (6 : Nat) (Option.some FieldType.int)) ∈ gtbl := gt7 (i := 204) rfl rfl
theorem q_1645 : (Cond.methodLink "FlatPlanModel" (150 : Nat) ({ cls := "FlatPlanModel", name := "isSize", desc := "(I)Z" } : Jvm.MethodName)) ∈ gtbl := gt7 (i := 205) rfl rfl
theorem q_1646 : (Cond.static ({ cls := "FlatPlanModel", name := "isSize", desc := "(I)Z" } : Jvm.MethodName)) ∈ gtbl := gt7 (i := 206) rfl rfl
theorem q_1647 : (Cond.code ({ cls := "FlatPlanModel", name := "isSize", desc := "(I)Z" } : Jvm.MethodName) prog_13_method_7_code (1 : Nat) (Option.some FieldType.boolean)) ∈ gtbl := gt7 (i := 207) rfl rfl
theorem q_1648 : (Cond.constantLong "FlatPlanModel" (153 : Nat) (9 : Int64)) ∈ gtbl := gt7 (i := 208) rfl rfl
theorem q_1649 : (Cond.constantLong "FlatPlanModel" (155 : Nat) (999 : Int64)) ∈ gtbl := gt7 (i := 209) rfl rfl
theorem q_1650 : (Cond.constantLong "FlatPlanModel" (157 : Nat) (9999 : Int64)) ∈ gtbl := gt7 (i := 210) rfl rfl
theorem q_1651 : (Cond.methodLink "FlatPlanModel" (159 : Nat) ({ cls := "FlatPlanModel", name := "record", desc := "()V" } : Jvm.MethodName)) ∈ gtbl := gt7 (i := 211) rfl rfl
theorem q_1653 : (Cond.instanceMethod ({ cls := "FlatPlanModel", name := "record", desc := "()V" } : Jvm.MethodName)) ∈ gtbl := gt7 (i := 213) rfl rfl
theorem q_1654 : (Cond.code ({ cls := "FlatPlanModel", name := "record", desc := "()V" } : Jvm.MethodName) prog_13_method_8_code (2 : Nat) (Option.none : Option FieldType)) ∈ gtbl := gt7 (i := 214) rfl rfl
theorem q_1655 : (Cond.methodLink "FlatPlanModel" (162 : Nat) ({ cls := "FlatPlanModel", name := "setOfAd", desc := "(III)V" } : Jvm.MethodName)) ∈ gtbl := gt7 (i := 215) rfl rfl
theorem q_1657 : (Cond.instanceMethod ({ cls := "FlatPlanModel", name := "setOfAd", desc := "(III)V" } : Jvm.MethodName)) ∈ gtbl := gt7 (i := 217) rfl rfl
theorem q_1658 : (Cond.code ({ cls := "FlatPlanModel", name := "setOfAd", desc := "(III)V" } : Jvm.MethodName) prog_13_method_22_code (4 : Nat) (Option.none : Option FieldType)) ∈ gtbl := gt7 (i := 218) rfl rfl
theorem q_1659 : (Cond.methodLink "FlatPlanLaw" (169 : Nat) ({ cls := "FlatPlanModel", name := "setAd", desc := "(IZI)Z" } : Jvm.MethodName)) ∈ gtbl := gt7 (i := 219) rfl rfl
theorem q_1660 : (Cond.instanceMethod ({ cls := "FlatPlanModel", name := "setAd", desc := "(IZI)Z" } : Jvm.MethodName)) ∈ gtbl := gt7 (i := 220) rfl rfl
theorem q_1661 : (Cond.selects "FlatPlanModel" ({ cls := "FlatPlanModel", name := "setAd", desc := "(IZI)Z" } : Jvm.MethodName) ({ cls := "FlatPlanModel", name := "setAd", desc := "(IZI)Z" } : Jvm.MethodName)) ∈ gtbl := gt7 (i := 221) rfl rfl
theorem q_1662 : (Cond.code ({ cls := "FlatPlanModel", name := "setAd", desc := "(IZI)Z" } : Jvm.MethodName) prog_13_method_50_code (4 : Nat) (Option.some FieldType.boolean)) ∈ gtbl := gt7 (i := 222) rfl rfl
theorem q_1663 : (Cond.constantLong "FlatPlanModel" (166 : Nat) (2 : Int64)) ∈ gtbl := gt7 (i := 223) rfl rfl
theorem q_1664 : (Cond.methodLink "FlatPlanLaw" (173 : Nat) ({ cls := "FlatPlanModel", name := "setPrice", desc := "(II)I" } : Jvm.MethodName)) ∈ gtbl := gt7 (i := 224) rfl rfl
theorem q_1665 : (Cond.instanceMethod ({ cls := "FlatPlanModel", name := "setPrice", desc := "(II)I" } : Jvm.MethodName)) ∈ gtbl := gt7 (i := 225) rfl rfl
theorem q_1666 : (Cond.selects "FlatPlanModel" ({ cls := "FlatPlanModel", name := "setPrice", desc := "(II)I" } : Jvm.MethodName) ({ cls := "FlatPlanModel", name := "setPrice", desc := "(II)I" } : Jvm.MethodName)) ∈ gtbl := gt7 (i := 226) rfl rfl
theorem q_1667 : (Cond.code ({ cls := "FlatPlanModel", name := "setPrice", desc := "(II)I" } : Jvm.MethodName) prog_13_method_51_code (4 : Nat) (Option.some FieldType.int)) ∈ gtbl := gt7 (i := 227) rfl rfl
theorem q_1668 : (Cond.methodLink "FlatPlanLaw" (176 : Nat) ({ cls := "FlatPlanModel", name := "ad", desc := "(II)I" } : Jvm.MethodName)) ∈ gtbl := gt7 (i := 228) rfl rfl
theorem q_1669 : (Cond.instanceMethod ({ cls := "FlatPlanModel", name := "ad", desc := "(II)I" } : Jvm.MethodName)) ∈ gtbl := gt7 (i := 229) rfl rfl
theorem q_1670 : (Cond.selects "FlatPlanModel" ({ cls := "FlatPlanModel", name := "ad", desc := "(II)I" } : Jvm.MethodName) ({ cls := "FlatPlanModel", name := "ad", desc := "(II)I" } : Jvm.MethodName)) ∈ gtbl := gt7 (i := 230) rfl rfl
theorem q_1671 : (Cond.code ({ cls := "FlatPlanModel", name := "ad", desc := "(II)I" } : Jvm.MethodName) prog_13_method_53_code (3 : Nat) (Option.some FieldType.int)) ∈ gtbl := gt7 (i := 231) rfl rfl
theorem q_1672 : (Cond.constantLong "FlatPlanModel" (168 : Nat) (5 : Int64)) ∈ gtbl := gt7 (i := 232) rfl rfl
theorem q_1673 : (Cond.methodLink "FlatPlanModel" (170 : Nat) ({ cls := "FlatPlanModel", name := "toldPage", desc := "(I)I" } : Jvm.MethodName)) ∈ gtbl := gt7 (i := 233) rfl rfl
theorem q_1674 : (Cond.static ({ cls := "FlatPlanModel", name := "toldPage", desc := "(I)I" } : Jvm.MethodName)) ∈ gtbl := gt7 (i := 234) rfl rfl
theorem q_1675 : (Cond.code ({ cls := "FlatPlanModel", name := "toldPage", desc := "(I)I" } : Jvm.MethodName) prog_13_method_52_code (1 : Nat) (Option.some FieldType.int)) ∈ gtbl := gt7 (i := 235) rfl rfl
theorem q_1676 : (Cond.methodLink "FlatPlanModel" (173 : Nat) ({ cls := "FlatPlanModel", name := "isAdLate", desc := "(I)Z" } : Jvm.MethodName)) ∈ gtbl := gt7 (i := 236) rfl rfl
theorem q_1678 : (Cond.instanceMethod ({ cls := "FlatPlanModel", name := "isAdLate", desc := "(I)Z" } : Jvm.MethodName)) ∈ gtbl := gt7 (i := 238) rfl rfl
theorem q_1679 : (Cond.code ({ cls := "FlatPlanModel", name := "isAdLate", desc := "(I)Z" } : Jvm.MethodName) prog_13_method_27_code (2 : Nat) (Option.some FieldType.boolean)) ∈ gtbl := gt7 (i := 239) rfl rfl
theorem q_1680 : (Cond.methodLink "FlatPlanLaw" (179 : Nat) ({ cls := "FlatPlanModel", name := "story", desc := "(II)I" } : Jvm.MethodName)) ∈ gtbl := gt8 (i := 0) rfl rfl
theorem q_1681 : (Cond.instanceMethod ({ cls := "FlatPlanModel", name := "story", desc := "(II)I" } : Jvm.MethodName)) ∈ gtbl := gt8 (i := 1) rfl rfl
theorem q_1682 : (Cond.selects "FlatPlanModel" ({ cls := "FlatPlanModel", name := "story", desc := "(II)I" } : Jvm.MethodName) ({ cls := "FlatPlanModel", name := "story", desc := "(II)I" } : Jvm.MethodName)) ∈ gtbl := gt8 (i := 2) rfl rfl
theorem q_1683 : (Cond.code ({ cls := "FlatPlanModel", name := "story", desc := "(II)I" } : Jvm.MethodName) prog_13_method_54_code (3 : Nat) (Option.some FieldType.int)) ∈ gtbl := gt8 (i := 3) rfl rfl
theorem q_1684 : (Cond.constantLong "FlatPlanModel" (176 : Nat) (3 : Int64)) ∈ gtbl := gt8 (i := 4) rfl rfl
theorem q_1685 : (Cond.methodLink "FlatPlanModel" (178 : Nat) ({ cls := "FlatPlanModel", name := "isStoryLate", desc := "(I)Z" } : Jvm.MethodName)) ∈ gtbl := gt8 (i := 5) rfl rfl
theorem q_1687 : (Cond.instanceMethod ({ cls := "FlatPlanModel", name := "isStoryLate", desc := "(I)Z" } : Jvm.MethodName)) ∈ gtbl := gt8 (i := 7) rfl rfl
theorem q_1688 : (Cond.code ({ cls := "FlatPlanModel", name := "isStoryLate", desc := "(I)Z" } : Jvm.MethodName) prog_13_method_28_code (2 : Nat) (Option.some FieldType.boolean)) ∈ gtbl := gt8 (i := 8) rfl rfl
theorem q_1689 : (Cond.methodLink "FlatPlanLaw" (182 : Nat) ({ cls := "FlatPlanModel", name := "standby", desc := "(II)I" } : Jvm.MethodName)) ∈ gtbl := gt8 (i := 9) rfl rfl
theorem q_1690 : (Cond.instanceMethod ({ cls := "FlatPlanModel", name := "standby", desc := "(II)I" } : Jvm.MethodName)) ∈ gtbl := gt8 (i := 10) rfl rfl
theorem q_1691 : (Cond.selects "FlatPlanModel" ({ cls := "FlatPlanModel", name := "standby", desc := "(II)I" } : Jvm.MethodName) ({ cls := "FlatPlanModel", name := "standby", desc := "(II)I" } : Jvm.MethodName)) ∈ gtbl := gt8 (i := 11) rfl rfl
theorem q_1692 : (Cond.code ({ cls := "FlatPlanModel", name := "standby", desc := "(II)I" } : Jvm.MethodName) prog_13_method_55_code (3 : Nat) (Option.some FieldType.int)) ∈ gtbl := gt8 (i := 12) rfl rfl
theorem q_1693 : (Cond.methodLink "FlatPlanModel" (181 : Nat) ({ cls := "FlatPlanModel", name := "isStandby", desc := "(I)Z" } : Jvm.MethodName)) ∈ gtbl := gt8 (i := 13) rfl rfl
theorem q_1695 : (Cond.instanceMethod ({ cls := "FlatPlanModel", name := "isStandby", desc := "(I)Z" } : Jvm.MethodName)) ∈ gtbl := gt8 (i := 15) rfl rfl
theorem q_1696 : (Cond.code ({ cls := "FlatPlanModel", name := "isStandby", desc := "(I)Z" } : Jvm.MethodName) prog_13_method_17_code (2 : Nat) (Option.some FieldType.boolean)) ∈ gtbl := gt8 (i := 16) rfl rfl
theorem q_1697 : (Cond.methodLink "FlatPlanLaw" (185 : Nat) ({ cls := "FlatPlanModel", name := "page", desc := "(II)I" } : Jvm.MethodName)) ∈ gtbl := gt8 (i := 17) rfl rfl
theorem q_1698 : (Cond.instanceMethod ({ cls := "FlatPlanModel", name := "page", desc := "(II)I" } : Jvm.MethodName)) ∈ gtbl := gt8 (i := 18) rfl rfl
theorem q_1699 : (Cond.selects "FlatPlanModel" ({ cls := "FlatPlanModel", name := "page", desc := "(II)I" } : Jvm.MethodName) ({ cls := "FlatPlanModel", name := "page", desc := "(II)I" } : Jvm.MethodName)) ∈ gtbl := gt8 (i := 19) rfl rfl
theorem q_1700 : (Cond.code ({ cls := "FlatPlanModel", name := "page", desc := "(II)I" } : Jvm.MethodName) prog_13_method_56_code (3 : Nat) (Option.some FieldType.int)) ∈ gtbl := gt8 (i := 20) rfl rfl
theorem q_1701 : (Cond.methodLink "FlatPlanModel" (184 : Nat) ({ cls := "FlatPlanModel", name := "left", desc := "(I)I" } : Jvm.MethodName)) ∈ gtbl := gt8 (i := 21) rfl rfl
theorem q_1703 : (Cond.instanceMethod ({ cls := "FlatPlanModel", name := "left", desc := "(I)I" } : Jvm.MethodName)) ∈ gtbl := gt8 (i := 23) rfl rfl
theorem q_1704 : (Cond.code ({ cls := "FlatPlanModel", name := "left", desc := "(I)I" } : Jvm.MethodName) prog_13_method_35_code (2 : Nat) (Option.some FieldType.int)) ∈ gtbl := gt8 (i := 24) rfl rfl
theorem q_1705 : (Cond.methodLink "FlatPlanModel" (187 : Nat) ({ cls := "FlatPlanModel", name := "adsOn", desc := "(I)I" } : Jvm.MethodName)) ∈ gtbl := gt8 (i := 25) rfl rfl
theorem q_1707 : (Cond.instanceMethod ({ cls := "FlatPlanModel", name := "adsOn", desc := "(I)I" } : Jvm.MethodName)) ∈ gtbl := gt8 (i := 27) rfl rfl
theorem q_1708 : (Cond.code ({ cls := "FlatPlanModel", name := "adsOn", desc := "(I)I" } : Jvm.MethodName) prog_13_method_31_code (4 : Nat) (Option.some FieldType.int)) ∈ gtbl := gt8 (i := 28) rfl rfl
theorem q_1709 : (Cond.methodLink "FlatPlanModel" (190 : Nat) ({ cls := "FlatPlanModel", name := "standbysOn", desc := "(I)I" } : Jvm.MethodName)) ∈ gtbl := gt8 (i := 29) rfl rfl
theorem q_1711 : (Cond.instanceMethod ({ cls := "FlatPlanModel", name := "standbysOn", desc := "(I)I" } : Jvm.MethodName)) ∈ gtbl := gt8 (i := 31) rfl rfl
theorem q_1712 : (Cond.code ({ cls := "FlatPlanModel", name := "standbysOn", desc := "(I)I" } : Jvm.MethodName) prog_13_method_32_code (4 : Nat) (Option.some FieldType.int)) ∈ gtbl := gt8 (i := 32) rfl rfl
theorem q_1713 : (Cond.methodLink "FlatPlanLaw" (188 : Nat) ({ cls := "FlatPlanModel", name := "adOn", desc := "(II)I" } : Jvm.MethodName)) ∈ gtbl := gt8 (i := 33) rfl rfl
theorem q_1714 : (Cond.instanceMethod ({ cls := "FlatPlanModel", name := "adOn", desc := "(II)I" } : Jvm.MethodName)) ∈ gtbl := gt8 (i := 34) rfl rfl
theorem q_1715 : (Cond.selects "FlatPlanModel" ({ cls := "FlatPlanModel", name := "adOn", desc := "(II)I" } : Jvm.MethodName) ({ cls := "FlatPlanModel", name := "adOn", desc := "(II)I" } : Jvm.MethodName)) ∈ gtbl := gt8 (i := 35) rfl rfl
theorem q_1716 : (Cond.code ({ cls := "FlatPlanModel", name := "adOn", desc := "(II)I" } : Jvm.MethodName) prog_13_method_57_code (5 : Nat) (Option.some FieldType.int)) ∈ gtbl := gt8 (i := 36) rfl rfl
theorem q_1717 : (Cond.methodLink "FlatPlanLaw" (191 : Nat) ({ cls := "FlatPlanModel", name := "form", desc := "(II)I" } : Jvm.MethodName)) ∈ gtbl := gt8 (i := 37) rfl rfl
theorem q_1718 : (Cond.instanceMethod ({ cls := "FlatPlanModel", name := "form", desc := "(II)I" } : Jvm.MethodName)) ∈ gtbl := gt8 (i := 38) rfl rfl
theorem q_1719 : (Cond.selects "FlatPlanModel" ({ cls := "FlatPlanModel", name := "form", desc := "(II)I" } : Jvm.MethodName) ({ cls := "FlatPlanModel", name := "form", desc := "(II)I" } : Jvm.MethodName)) ∈ gtbl := gt8 (i := 39) rfl rfl
theorem q_1720 : (Cond.code ({ cls := "FlatPlanModel", name := "form", desc := "(II)I" } : Jvm.MethodName) prog_13_method_63_code (3 : Nat) (Option.some FieldType.int)) ∈ gtbl := gt8 (i := 40) rfl rfl
theorem q_1721 : (Cond.methodLink "FlatPlanModel" (199 : Nat) ({ cls := "FlatPlanModel", name := "isForm", desc := "(I)Z" } : Jvm.MethodName)) ∈ gtbl := gt8 (i := 41) rfl rfl
theorem q_1723 : (Cond.instanceMethod ({ cls := "FlatPlanModel", name := "isForm", desc := "(I)Z" } : Jvm.MethodName)) ∈ gtbl := gt8 (i := 43) rfl rfl
theorem q_1724 : (Cond.code ({ cls := "FlatPlanModel", name := "isForm", desc := "(I)Z" } : Jvm.MethodName) prog_13_method_14_code (2 : Nat) (Option.some FieldType.boolean)) ∈ gtbl := gt8 (i := 44) rfl rfl
theorem q_1725 : (Cond.methodLink "FlatPlanModel" (202 : Nat) ({ cls := "FlatPlanModel", name := "leftOnForm", desc := "(I)I" } : Jvm.MethodName)) ∈ gtbl := gt8 (i := 45) rfl rfl
theorem q_1727 : (Cond.instanceMethod ({ cls := "FlatPlanModel", name := "leftOnForm", desc := "(I)I" } : Jvm.MethodName)) ∈ gtbl := gt8 (i := 47) rfl rfl
theorem q_1728 : (Cond.code ({ cls := "FlatPlanModel", name := "leftOnForm", desc := "(I)I" } : Jvm.MethodName) prog_13_method_58_code (4 : Nat) (Option.some FieldType.int)) ∈ gtbl := gt8 (i := 48) rfl rfl
theorem q_1729 : (Cond.methodLink "FlatPlanModel" (205 : Nat) ({ cls := "FlatPlanModel", name := "adsOnForm", desc := "(I)I" } : Jvm.MethodName)) ∈ gtbl := gt8 (i := 49) rfl rfl
theorem q_1731 : (Cond.instanceMethod ({ cls := "FlatPlanModel", name := "adsOnForm", desc := "(I)I" } : Jvm.MethodName)) ∈ gtbl := gt8 (i := 51) rfl rfl
theorem q_1732 : (Cond.code ({ cls := "FlatPlanModel", name := "adsOnForm", desc := "(I)I" } : Jvm.MethodName) prog_13_method_60_code (4 : Nat) (Option.some FieldType.int)) ∈ gtbl := gt8 (i := 52) rfl rfl
theorem q_1733 : (Cond.methodLink "FlatPlanModel" (193 : Nat) ({ cls := "FlatPlanModel", name := "isAdOnForm", desc := "(II)Z" } : Jvm.MethodName)) ∈ gtbl := gt8 (i := 53) rfl rfl
theorem q_1735 : (Cond.instanceMethod ({ cls := "FlatPlanModel", name := "isAdOnForm", desc := "(II)Z" } : Jvm.MethodName)) ∈ gtbl := gt8 (i := 55) rfl rfl
theorem q_1736 : (Cond.code ({ cls := "FlatPlanModel", name := "isAdOnForm", desc := "(II)Z" } : Jvm.MethodName) prog_13_method_59_code (3 : Nat) (Option.some FieldType.boolean)) ∈ gtbl := gt8 (i := 56) rfl rfl
theorem q_1737 : (Cond.methodLink "FlatPlanModel" (208 : Nat) ({ cls := "FlatPlanModel", name := "lateOnForm", desc := "(I)I" } : Jvm.MethodName)) ∈ gtbl := gt8 (i := 57) rfl rfl
theorem q_1739 : (Cond.instanceMethod ({ cls := "FlatPlanModel", name := "lateOnForm", desc := "(I)I" } : Jvm.MethodName)) ∈ gtbl := gt8 (i := 59) rfl rfl
theorem q_1740 : (Cond.code ({ cls := "FlatPlanModel", name := "lateOnForm", desc := "(I)I" } : Jvm.MethodName) prog_13_method_61_code (4 : Nat) (Option.some FieldType.int)) ∈ gtbl := gt8 (i := 60) rfl rfl
theorem q_1741 : (Cond.methodLink "FlatPlanModel" (196 : Nat) ({ cls := "FlatPlanModel", name := "hasPageOn", desc := "(II)Z" } : Jvm.MethodName)) ∈ gtbl := gt8 (i := 61) rfl rfl
theorem q_1743 : (Cond.instanceMethod ({ cls := "FlatPlanModel", name := "hasPageOn", desc := "(II)Z" } : Jvm.MethodName)) ∈ gtbl := gt8 (i := 63) rfl rfl
theorem q_1744 : (Cond.code ({ cls := "FlatPlanModel", name := "hasPageOn", desc := "(II)Z" } : Jvm.MethodName) prog_13_method_41_code (5 : Nat) (Option.some FieldType.boolean)) ∈ gtbl := gt8 (i := 64) rfl rfl
theorem q_1745 : (Cond.methodLink "FlatPlanModel" (211 : Nat) ({ cls := "FlatPlanModel", name := "hasColored", desc := "(I)Z" } : Jvm.MethodName)) ∈ gtbl := gt8 (i := 65) rfl rfl
theorem q_1747 : (Cond.instanceMethod ({ cls := "FlatPlanModel", name := "hasColored", desc := "(I)Z" } : Jvm.MethodName)) ∈ gtbl := gt8 (i := 67) rfl rfl
theorem q_1748 : (Cond.code ({ cls := "FlatPlanModel", name := "hasColored", desc := "(I)Z" } : Jvm.MethodName) prog_13_method_62_code (4 : Nat) (Option.some FieldType.boolean)) ∈ gtbl := gt8 (i := 68) rfl rfl
theorem q_1749 : (Cond.methodLink "FlatPlanLaw" (194 : Nat) ({ cls := "FlatPlanModel", name := "pageOf", desc := "(II)I" } : Jvm.MethodName)) ∈ gtbl := gt8 (i := 69) rfl rfl
theorem q_1750 : (Cond.instanceMethod ({ cls := "FlatPlanModel", name := "pageOf", desc := "(II)I" } : Jvm.MethodName)) ∈ gtbl := gt8 (i := 70) rfl rfl
theorem q_1751 : (Cond.selects "FlatPlanModel" ({ cls := "FlatPlanModel", name := "pageOf", desc := "(II)I" } : Jvm.MethodName) ({ cls := "FlatPlanModel", name := "pageOf", desc := "(II)I" } : Jvm.MethodName)) ∈ gtbl := gt8 (i := 71) rfl rfl
theorem q_1752 : (Cond.code ({ cls := "FlatPlanModel", name := "pageOf", desc := "(II)I" } : Jvm.MethodName) prog_13_method_64_code (5 : Nat) (Option.some FieldType.int)) ∈ gtbl := gt8 (i := 72) rfl rfl
theorem q_1753 : (Cond.methodLink "FlatPlanLaw" (203 : Nat) ({ cls := "FlatPlanModel", name := "put", desc := "(II)I" } : Jvm.MethodName)) ∈ gtbl := gt8 (i := 73) rfl rfl
theorem q_1754 : (Cond.instanceMethod ({ cls := "FlatPlanModel", name := "put", desc := "(II)I" } : Jvm.MethodName)) ∈ gtbl := gt8 (i := 74) rfl rfl
theorem q_1755 : (Cond.selects "FlatPlanModel" ({ cls := "FlatPlanModel", name := "put", desc := "(II)I" } : Jvm.MethodName) ({ cls := "FlatPlanModel", name := "put", desc := "(II)I" } : Jvm.MethodName)) ∈ gtbl := gt8 (i := 75) rfl rfl
theorem q_1756 : (Cond.code ({ cls := "FlatPlanModel", name := "put", desc := "(II)I" } : Jvm.MethodName) prog_13_method_65_code (4 : Nat) (Option.some FieldType.int)) ∈ gtbl := gt8 (i := 76) rfl rfl
theorem q_1757 : (Cond.methodLink "FlatPlanLaw" (206 : Nat) ({ cls := "FlatPlanModel", name := "lay", desc := "(II)I" } : Jvm.MethodName)) ∈ gtbl := gt8 (i := 77) rfl rfl
theorem q_1758 : (Cond.instanceMethod ({ cls := "FlatPlanModel", name := "lay", desc := "(II)I" } : Jvm.MethodName)) ∈ gtbl := gt8 (i := 78) rfl rfl
theorem q_1759 : (Cond.selects "FlatPlanModel" ({ cls := "FlatPlanModel", name := "lay", desc := "(II)I" } : Jvm.MethodName) ({ cls := "FlatPlanModel", name := "lay", desc := "(II)I" } : Jvm.MethodName)) ∈ gtbl := gt8 (i := 79) rfl rfl
theorem q_1760 : (Cond.code ({ cls := "FlatPlanModel", name := "lay", desc := "(II)I" } : Jvm.MethodName) prog_13_method_66_code (4 : Nat) (Option.some FieldType.int)) ∈ gtbl := gt8 (i := 80) rfl rfl
theorem q_1761 : (Cond.methodLink "FlatPlanModel" (214 : Nat) ({ cls := "FlatPlanModel", name := "isStoryPrinted", desc := "(I)Z" } : Jvm.MethodName)) ∈ gtbl := gt8 (i := 81) rfl rfl
theorem q_1763 : (Cond.instanceMethod ({ cls := "FlatPlanModel", name := "isStoryPrinted", desc := "(I)Z" } : Jvm.MethodName)) ∈ gtbl := gt8 (i := 83) rfl rfl
theorem q_1764 : (Cond.code ({ cls := "FlatPlanModel", name := "isStoryPrinted", desc := "(I)Z" } : Jvm.MethodName) prog_13_method_40_code (4 : Nat) (Option.some FieldType.boolean)) ∈ gtbl := gt8 (i := 84) rfl rfl
theorem q_1765 : (Cond.methodLink "FlatPlanLaw" (210 : Nat) ({ cls := "FlatPlanModel", name := "take", desc := "(I)Z" } : Jvm.MethodName)) ∈ gtbl := gt8 (i := 85) rfl rfl
theorem q_1766 : (Cond.instanceMethod ({ cls := "FlatPlanModel", name := "take", desc := "(I)Z" } : Jvm.MethodName)) ∈ gtbl := gt8 (i := 86) rfl rfl
theorem q_1767 : (Cond.selects "FlatPlanModel" ({ cls := "FlatPlanModel", name := "take", desc := "(I)Z" } : Jvm.MethodName) ({ cls := "FlatPlanModel", name := "take", desc := "(I)Z" } : Jvm.MethodName)) ∈ gtbl := gt8 (i := 87) rfl rfl
theorem q_1768 : (Cond.code ({ cls := "FlatPlanModel", name := "take", desc := "(I)Z" } : Jvm.MethodName) prog_13_method_67_code (2 : Nat) (Option.some FieldType.boolean)) ∈ gtbl := gt8 (i := 88) rfl rfl
theorem q_1769 : (Cond.methodLink "FlatPlanLaw" (213 : Nat) ({ cls := "FlatPlanModel", name := "takeStory", desc := "(I)Z" } : Jvm.MethodName)) ∈ gtbl := gt8 (i := 89) rfl rfl
theorem q_1770 : (Cond.instanceMethod ({ cls := "FlatPlanModel", name := "takeStory", desc := "(I)Z" } : Jvm.MethodName)) ∈ gtbl := gt8 (i := 90) rfl rfl
theorem q_1771 : (Cond.selects "FlatPlanModel" ({ cls := "FlatPlanModel", name := "takeStory", desc := "(I)Z" } : Jvm.MethodName) ({ cls := "FlatPlanModel", name := "takeStory", desc := "(I)Z" } : Jvm.MethodName)) ∈ gtbl := gt8 (i := 91) rfl rfl
theorem q_1772 : (Cond.code ({ cls := "FlatPlanModel", name := "takeStory", desc := "(I)Z" } : Jvm.MethodName) prog_13_method_68_code (2 : Nat) (Option.some FieldType.boolean)) ∈ gtbl := gt8 (i := 92) rfl rfl
theorem q_1773 : (Cond.methodLink "FlatPlanLaw" (216 : Nat) ({ cls := "FlatPlanModel", name := "use", desc := "(II)I" } : Jvm.MethodName)) ∈ gtbl := gt8 (i := 93) rfl rfl
theorem q_1774 : (Cond.instanceMethod ({ cls := "FlatPlanModel", name := "use", desc := "(II)I" } : Jvm.MethodName)) ∈ gtbl := gt8 (i := 94) rfl rfl
theorem q_1775 : (Cond.selects "FlatPlanModel" ({ cls := "FlatPlanModel", name := "use", desc := "(II)I" } : Jvm.MethodName) ({ cls := "FlatPlanModel", name := "use", desc := "(II)I" } : Jvm.MethodName)) ∈ gtbl := gt8 (i := 95) rfl rfl
theorem q_1776 : (Cond.code ({ cls := "FlatPlanModel", name := "use", desc := "(II)I" } : Jvm.MethodName) prog_13_method_70_code (3 : Nat) (Option.some FieldType.int)) ∈ gtbl := gt8 (i := 96) rfl rfl
theorem q_1777 : (Cond.methodLink "FlatPlanModel" (217 : Nat) ({ cls := "FlatPlanModel", name := "setStandby", desc := "(II)V" } : Jvm.MethodName)) ∈ gtbl := gt8 (i := 97) rfl rfl
theorem q_1779 : (Cond.instanceMethod ({ cls := "FlatPlanModel", name := "setStandby", desc := "(II)V" } : Jvm.MethodName)) ∈ gtbl := gt8 (i := 99) rfl rfl
theorem q_1780 : (Cond.code ({ cls := "FlatPlanModel", name := "setStandby", desc := "(II)V" } : Jvm.MethodName) prog_13_method_69_code (3 : Nat) (Option.none : Option FieldType)) ∈ gtbl := gt8 (i := 100) rfl rfl
theorem q_1781 : (Cond.methodLink "FlatPlanLaw" (219 : Nat) ({ cls := "FlatPlanModel", name := "clear", desc := "(I)I" } : Jvm.MethodName)) ∈ gtbl := gt8 (i := 101) rfl rfl
theorem q_1782 : (Cond.instanceMethod ({ cls := "FlatPlanModel", name := "clear", desc := "(I)I" } : Jvm.MethodName)) ∈ gtbl := gt8 (i := 102) rfl rfl
theorem q_1783 : (Cond.selects "FlatPlanModel" ({ cls := "FlatPlanModel", name := "clear", desc := "(I)I" } : Jvm.MethodName) ({ cls := "FlatPlanModel", name := "clear", desc := "(I)I" } : Jvm.MethodName)) ∈ gtbl := gt8 (i := 103) rfl rfl
theorem q_1784 : (Cond.code ({ cls := "FlatPlanModel", name := "clear", desc := "(I)I" } : Jvm.MethodName) prog_13_method_71_code (4 : Nat) (Option.some FieldType.int)) ∈ gtbl := gt8 (i := 104) rfl rfl
theorem q_1785 : (Cond.methodLink "FlatPlanLaw" (222 : Nat) ({ cls := "FlatPlanModel", name := "exchange", desc := "(II)I" } : Jvm.MethodName)) ∈ gtbl := gt8 (i := 105) rfl rfl
theorem q_1786 : (Cond.instanceMethod ({ cls := "FlatPlanModel", name := "exchange", desc := "(II)I" } : Jvm.MethodName)) ∈ gtbl := gt8 (i := 106) rfl rfl
theorem q_1787 : (Cond.selects "FlatPlanModel" ({ cls := "FlatPlanModel", name := "exchange", desc := "(II)I" } : Jvm.MethodName) ({ cls := "FlatPlanModel", name := "exchange", desc := "(II)I" } : Jvm.MethodName)) ∈ gtbl := gt8 (i := 107) rfl rfl
theorem q_1788 : (Cond.code ({ cls := "FlatPlanModel", name := "exchange", desc := "(II)I" } : Jvm.MethodName) prog_13_method_76_code (4 : Nat) (Option.some FieldType.int)) ∈ gtbl := gt8 (i := 108) rfl rfl
theorem q_1789 : (Cond.methodLink "FlatPlanModel" (229 : Nat) ({ cls := "FlatPlanModel", name := "exchangeReason", desc := "(II)I" } : Jvm.MethodName)) ∈ gtbl := gt8 (i := 109) rfl rfl
theorem q_1791 : (Cond.instanceMethod ({ cls := "FlatPlanModel", name := "exchangeReason", desc := "(II)I" } : Jvm.MethodName)) ∈ gtbl := gt8 (i := 111) rfl rfl
theorem q_1792 : (Cond.code ({ cls := "FlatPlanModel", name := "exchangeReason", desc := "(II)I" } : Jvm.MethodName) prog_13_method_75_code (4 : Nat) (Option.some FieldType.int)) ∈ gtbl := gt8 (i := 112) rfl rfl
theorem q_1793 : (Cond.methodLink "FlatPlanModel" (223 : Nat) ({ cls := "FlatPlanModel", name := "swapPages", desc := "(II)V" } : Jvm.MethodName)) ∈ gtbl := gt8 (i := 113) rfl rfl
theorem q_1795 : (Cond.instanceMethod ({ cls := "FlatPlanModel", name := "swapPages", desc := "(II)V" } : Jvm.MethodName)) ∈ gtbl := gt8 (i := 115) rfl rfl
theorem q_1796 : (Cond.code ({ cls := "FlatPlanModel", name := "swapPages", desc := "(II)V" } : Jvm.MethodName) prog_13_method_73_code (4 : Nat) (Option.none : Option FieldType)) ∈ gtbl := gt8 (i := 116) rfl rfl
theorem q_1797 : (Cond.methodLink "FlatPlanModel" (220 : Nat) ({ cls := "FlatPlanModel", name := "otherOf", desc := "(III)I" } : Jvm.MethodName)) ∈ gtbl := gt8 (i := 117) rfl rfl
theorem q_1798 : (Cond.static ({ cls := "FlatPlanModel", name := "otherOf", desc := "(III)I" } : Jvm.MethodName)) ∈ gtbl := gt8 (i := 118) rfl rfl
theorem q_1799 : (Cond.code ({ cls := "FlatPlanModel", name := "otherOf", desc := "(III)I" } : Jvm.MethodName) prog_13_method_72_code (3 : Nat) (Option.some FieldType.int)) ∈ gtbl := gt8 (i := 119) rfl rfl
theorem q_1800 : (Cond.methodLink "FlatPlanModel" (226 : Nat) ({ cls := "FlatPlanModel", name := "flawOn", desc := "(II)I" } : Jvm.MethodName)) ∈ gtbl := gt8 (i := 120) rfl rfl
theorem q_1802 : (Cond.instanceMethod ({ cls := "FlatPlanModel", name := "flawOn", desc := "(II)I" } : Jvm.MethodName)) ∈ gtbl := gt8 (i := 122) rfl rfl
theorem q_1803 : (Cond.code ({ cls := "FlatPlanModel", name := "flawOn", desc := "(II)I" } : Jvm.MethodName) prog_13_method_74_code (7 : Nat) (Option.some FieldType.int)) ∈ gtbl := gt8 (i := 123) rfl rfl
theorem q_1804 : (Cond.methodLink "FlatPlanLaw" (226 : Nat) ({ cls := "FlatPlanModel", name := "setColor", desc := "(IZ)Z" } : Jvm.MethodName)) ∈ gtbl := gt8 (i := 124) rfl rfl
theorem q_1805 : (Cond.instanceMethod ({ cls := "FlatPlanModel", name := "setColor", desc := "(IZ)Z" } : Jvm.MethodName)) ∈ gtbl := gt8 (i := 125) rfl rfl
theorem q_1806 : (Cond.selects "FlatPlanModel" ({ cls := "FlatPlanModel", name := "setColor", desc := "(IZ)Z" } : Jvm.MethodName) ({ cls := "FlatPlanModel", name := "setColor", desc := "(IZ)Z" } : Jvm.MethodName)) ∈ gtbl := gt8 (i := 126) rfl rfl
theorem q_1807 : (Cond.code ({ cls := "FlatPlanModel", name := "setColor", desc := "(IZ)Z" } : Jvm.MethodName) prog_13_method_77_code (3 : Nat) (Option.some FieldType.boolean)) ∈ gtbl := gt8 (i := 127) rfl rfl
theorem q_1808 : (Cond.methodLink "FlatPlanModel" (232 : Nat) ({ cls := "FlatPlanModel", name := "setForm", desc := "(III)V" } : Jvm.MethodName)) ∈ gtbl := gt8 (i := 128) rfl rfl
theorem q_1810 : (Cond.instanceMethod ({ cls := "FlatPlanModel", name := "setForm", desc := "(III)V" } : Jvm.MethodName)) ∈ gtbl := gt8 (i := 130) rfl rfl
theorem q_1811 : (Cond.code ({ cls := "FlatPlanModel", name := "setForm", desc := "(III)V" } : Jvm.MethodName) prog_13_method_20_code (4 : Nat) (Option.none : Option FieldType)) ∈ gtbl := gt8 (i := 131) rfl rfl
theorem q_1812 : (Cond.methodLink "FlatPlanLaw" (229 : Nat) ({ cls := "FlatPlanModel", name := "setClosing", desc := "(II)I" } : Jvm.MethodName)) ∈ gtbl := gt8 (i := 132) rfl rfl
theorem q_1813 : (Cond.instanceMethod ({ cls := "FlatPlanModel", name := "setClosing", desc := "(II)I" } : Jvm.MethodName)) ∈ gtbl := gt8 (i := 133) rfl rfl
theorem q_1814 : (Cond.selects "FlatPlanModel" ({ cls := "FlatPlanModel", name := "setClosing", desc := "(II)I" } : Jvm.MethodName) ({ cls := "FlatPlanModel", name := "setClosing", desc := "(II)I" } : Jvm.MethodName)) ∈ gtbl := gt8 (i := 134) rfl rfl
theorem q_1815 : (Cond.code ({ cls := "FlatPlanModel", name := "setClosing", desc := "(II)I" } : Jvm.MethodName) prog_13_method_81_code (4 : Nat) (Option.some FieldType.int)) ∈ gtbl := gt8 (i := 135) rfl rfl
theorem q_1816 : (Cond.methodLink "FlatPlanModel" (238 : Nat) ({ cls := "FlatPlanModel", name := "close", desc := "(I)V" } : Jvm.MethodName)) ∈ gtbl := gt8 (i := 136) rfl rfl
theorem q_1818 : (Cond.instanceMethod ({ cls := "FlatPlanModel", name := "close", desc := "(I)V" } : Jvm.MethodName)) ∈ gtbl := gt8 (i := 138) rfl rfl
theorem q_1819 : (Cond.code ({ cls := "FlatPlanModel", name := "close", desc := "(I)V" } : Jvm.MethodName) prog_13_method_79_code (5 : Nat) (Option.none : Option FieldType)) ∈ gtbl := gt8 (i := 139) rfl rfl
theorem q_1820 : (Cond.methodLink "FlatPlanModel" (235 : Nat) ({ cls := "FlatPlanModel", name := "freeStandby", desc := "(I)I" } : Jvm.MethodName)) ∈ gtbl := gt8 (i := 140) rfl rfl
theorem q_1822 : (Cond.instanceMethod ({ cls := "FlatPlanModel", name := "freeStandby", desc := "(I)I" } : Jvm.MethodName)) ∈ gtbl := gt8 (i := 142) rfl rfl
theorem q_1823 : (Cond.code ({ cls := "FlatPlanModel", name := "freeStandby", desc := "(I)I" } : Jvm.MethodName) prog_13_method_78_code (3 : Nat) (Option.some FieldType.int)) ∈ gtbl := gt8 (i := 143) rfl rfl
theorem q_1824 : (Cond.methodLink "FlatPlanLaw" (232 : Nat) ({ cls := "FlatPlanModel", name := "pass", desc := "(I)I" } : Jvm.MethodName)) ∈ gtbl := gt8 (i := 144) rfl rfl
theorem q_1825 : (Cond.instanceMethod ({ cls := "FlatPlanModel", name := "pass", desc := "(I)I" } : Jvm.MethodName)) ∈ gtbl := gt8 (i := 145) rfl rfl
theorem q_1826 : (Cond.selects "FlatPlanModel" ({ cls := "FlatPlanModel", name := "pass", desc := "(I)I" } : Jvm.MethodName) ({ cls := "FlatPlanModel", name := "pass", desc := "(I)I" } : Jvm.MethodName)) ∈ gtbl := gt8 (i := 146) rfl rfl
theorem q_1827 : (Cond.code ({ cls := "FlatPlanModel", name := "pass", desc := "(I)I" } : Jvm.MethodName) prog_13_method_82_code (4 : Nat) (Option.some FieldType.int)) ∈ gtbl := gt8 (i := 147) rfl rfl
theorem q_1828 : (Cond.constantLong "FlatPlanModel" (241 : Nat) (500 : Int64)) ∈ gtbl := gt8 (i := 148) rfl rfl
theorem q_1829 : (Cond.methodLink "FlatPlanModel" (243 : Nat) ({ cls := "FlatPlanModel", name := "hour", desc := "()I" } : Jvm.MethodName)) ∈ gtbl := gt8 (i := 149) rfl rfl
theorem q_1831 : (Cond.instanceMethod ({ cls := "FlatPlanModel", name := "hour", desc := "()I" } : Jvm.MethodName)) ∈ gtbl := gt8 (i := 151) rfl rfl
theorem q_1832 : (Cond.code ({ cls := "FlatPlanModel", name := "hour", desc := "()I" } : Jvm.MethodName) prog_13_method_80_code (3 : Nat) (Option.some FieldType.int)) ∈ gtbl := gt8 (i := 152) rfl rfl
theorem q_1833 : (Cond.methodLink "FlatPlanLaw" (235 : Nat) ({ cls := "FlatPlanModel", name := "print", desc := "(I)I" } : Jvm.MethodName)) ∈ gtbl := gt8 (i := 153) rfl rfl
theorem q_1834 : (Cond.instanceMethod ({ cls := "FlatPlanModel", name := "print", desc := "(I)I" } : Jvm.MethodName)) ∈ gtbl := gt8 (i := 154) rfl rfl
theorem q_1835 : (Cond.selects "FlatPlanModel" ({ cls := "FlatPlanModel", name := "print", desc := "(I)I" } : Jvm.MethodName) ({ cls := "FlatPlanModel", name := "print", desc := "(I)I" } : Jvm.MethodName)) ∈ gtbl := gt8 (i := 155) rfl rfl
theorem q_1836 : (Cond.code ({ cls := "FlatPlanModel", name := "print", desc := "(I)I" } : Jvm.MethodName) prog_13_method_83_code (2 : Nat) (Option.some FieldType.int)) ∈ gtbl := gt8 (i := 156) rfl rfl
theorem q_1837 : (Cond.methodLink "FlatPlanLaw" (239 : Nat) ({ cls := "FlatPlanModel", name := "nextClosing", desc := "()I" } : Jvm.MethodName)) ∈ gtbl := gt8 (i := 157) rfl rfl
theorem q_1838 : (Cond.instanceMethod ({ cls := "FlatPlanModel", name := "nextClosing", desc := "()I" } : Jvm.MethodName)) ∈ gtbl := gt8 (i := 158) rfl rfl
theorem q_1839 : (Cond.selects "FlatPlanModel" ({ cls := "FlatPlanModel", name := "nextClosing", desc := "()I" } : Jvm.MethodName) ({ cls := "FlatPlanModel", name := "nextClosing", desc := "()I" } : Jvm.MethodName)) ∈ gtbl := gt8 (i := 159) rfl rfl
theorem q_1840 : (Cond.code ({ cls := "FlatPlanModel", name := "nextClosing", desc := "()I" } : Jvm.MethodName) prog_13_method_85_code (1 : Nat) (Option.some FieldType.int)) ∈ gtbl := gt8 (i := 160) rfl rfl
theorem q_1841 : (Cond.methodLink "FlatPlanModel" (246 : Nat) ({ cls := "FlatPlanModel", name := "nextForm", desc := "()I" } : Jvm.MethodName)) ∈ gtbl := gt8 (i := 161) rfl rfl
theorem q_1843 : (Cond.instanceMethod ({ cls := "FlatPlanModel", name := "nextForm", desc := "()I" } : Jvm.MethodName)) ∈ gtbl := gt8 (i := 163) rfl rfl
theorem q_1844 : (Cond.code ({ cls := "FlatPlanModel", name := "nextForm", desc := "()I" } : Jvm.MethodName) prog_13_method_84_code (3 : Nat) (Option.some FieldType.int)) ∈ gtbl := gt8 (i := 164) rfl rfl
theorem q_1845 : (Cond.methodLink "FlatPlanLaw" (294 : Nat) ({ cls := "FlatPlanModel", name := "lost", desc := "()I" } : Jvm.MethodName)) ∈ gtbl := gt8 (i := 165) rfl rfl
theorem q_1846 : (Cond.instanceMethod ({ cls := "FlatPlanModel", name := "lost", desc := "()I" } : Jvm.MethodName)) ∈ gtbl := gt8 (i := 166) rfl rfl
theorem q_1847 : (Cond.selects "FlatPlanModel" ({ cls := "FlatPlanModel", name := "lost", desc := "()I" } : Jvm.MethodName) ({ cls := "FlatPlanModel", name := "lost", desc := "()I" } : Jvm.MethodName)) ∈ gtbl := gt8 (i := 167) rfl rfl
theorem q_1848 : (Cond.code ({ cls := "FlatPlanModel", name := "lost", desc := "()I" } : Jvm.MethodName) prog_13_method_86_code (1 : Nat) (Option.some FieldType.int)) ∈ gtbl := gt8 (i := 168) rfl rfl
theorem q_1849 : (Cond.methodLink "FlatPlanLaw" (298 : Nat) ({ cls := "FlatPlanModel", name := "endangered", desc := "()I" } : Jvm.MethodName)) ∈ gtbl := gt8 (i := 169) rfl rfl
theorem q_1850 : (Cond.instanceMethod ({ cls := "FlatPlanModel", name := "endangered", desc := "()I" } : Jvm.MethodName)) ∈ gtbl := gt8 (i := 170) rfl rfl
theorem q_1851 : (Cond.selects "FlatPlanModel" ({ cls := "FlatPlanModel", name := "endangered", desc := "()I" } : Jvm.MethodName) ({ cls := "FlatPlanModel", name := "endangered", desc := "()I" } : Jvm.MethodName)) ∈ gtbl := gt8 (i := 171) rfl rfl
theorem q_1852 : (Cond.code ({ cls := "FlatPlanModel", name := "endangered", desc := "()I" } : Jvm.MethodName) prog_13_method_87_code (3 : Nat) (Option.some FieldType.int)) ∈ gtbl := gt8 (i := 172) rfl rfl
theorem q_1853 : (Cond.methodLink "FlatPlanLaw" (243 : Nat) ({ cls := "FlatPlanModel", name := "placeAds", desc := "()I" } : Jvm.MethodName)) ∈ gtbl := gt8 (i := 173) rfl rfl
theorem q_1854 : (Cond.instanceMethod ({ cls := "FlatPlanModel", name := "placeAds", desc := "()I" } : Jvm.MethodName)) ∈ gtbl := gt8 (i := 174) rfl rfl
theorem q_1855 : (Cond.selects "FlatPlanModel" ({ cls := "FlatPlanModel", name := "placeAds", desc := "()I" } : Jvm.MethodName) ({ cls := "FlatPlanModel", name := "placeAds", desc := "()I" } : Jvm.MethodName)) ∈ gtbl := gt8 (i := 175) rfl rfl
theorem q_1856 : (Cond.code ({ cls := "FlatPlanModel", name := "placeAds", desc := "()I" } : Jvm.MethodName) prog_13_method_90_code (4 : Nat) (Option.some FieldType.int)) ∈ gtbl := gt8 (i := 176) rfl rfl
theorem q_1857 : (Cond.methodLink "FlatPlanModel" (249 : Nat) ({ cls := "FlatPlanModel", name := "isAhead", desc := "(II)Z" } : Jvm.MethodName)) ∈ gtbl := gt8 (i := 177) rfl rfl
theorem q_1859 : (Cond.instanceMethod ({ cls := "FlatPlanModel", name := "isAhead", desc := "(II)Z" } : Jvm.MethodName)) ∈ gtbl := gt8 (i := 179) rfl rfl
theorem q_1860 : (Cond.code ({ cls := "FlatPlanModel", name := "isAhead", desc := "(II)Z" } : Jvm.MethodName) prog_13_method_89_code (3 : Nat) (Option.some FieldType.boolean)) ∈ gtbl := gt8 (i := 180) rfl rfl
theorem q_1861 : (Cond.methodLink "FlatPlanModel" (252 : Nat) ({ cls := "FlatPlanModel", name := "firstOf", desc := "(II)I" } : Jvm.MethodName)) ∈ gtbl := gt8 (i := 181) rfl rfl
theorem q_1863 : (Cond.instanceMethod ({ cls := "FlatPlanModel", name := "firstOf", desc := "(II)I" } : Jvm.MethodName)) ∈ gtbl := gt8 (i := 183) rfl rfl
theorem q_1864 : (Cond.code ({ cls := "FlatPlanModel", name := "firstOf", desc := "(II)I" } : Jvm.MethodName) prog_13_method_88_code (4 : Nat) (Option.some FieldType.int)) ∈ gtbl := gt8 (i := 184) rfl rfl
theorem q_1865 : (Cond.methodLink "FlatPlanLaw" (247 : Nat) ({ cls := "FlatPlanModel", name := "layStories", desc := "()I" } : Jvm.MethodName)) ∈ gtbl := gt8 (i := 185) rfl rfl
theorem q_1866 : (Cond.instanceMethod ({ cls := "FlatPlanModel", name := "layStories", desc := "()I" } : Jvm.MethodName)) ∈ gtbl := gt8 (i := 186) rfl rfl
theorem q_1867 : (Cond.selects "FlatPlanModel" ({ cls := "FlatPlanModel", name := "layStories", desc := "()I" } : Jvm.MethodName) ({ cls := "FlatPlanModel", name := "layStories", desc := "()I" } : Jvm.MethodName)) ∈ gtbl := gt8 (i := 187) rfl rfl
theorem q_1868 : (Cond.code ({ cls := "FlatPlanModel", name := "layStories", desc := "()I" } : Jvm.MethodName) prog_13_method_91_code (5 : Nat) (Option.some FieldType.int)) ∈ gtbl := gt8 (i := 188) rfl rfl
theorem q_1869 : (Cond.methodLink "FlatPlanLaw" (250 : Nat) ({ cls := "FlatPlanModel", name := "choices", desc := "(I)I" } : Jvm.MethodName)) ∈ gtbl := gt8 (i := 189) rfl rfl
theorem q_1870 : (Cond.instanceMethod ({ cls := "FlatPlanModel", name := "choices", desc := "(I)I" } : Jvm.MethodName)) ∈ gtbl := gt8 (i := 190) rfl rfl
theorem q_1871 : (Cond.selects "FlatPlanModel" ({ cls := "FlatPlanModel", name := "choices", desc := "(I)I" } : Jvm.MethodName) ({ cls := "FlatPlanModel", name := "choices", desc := "(I)I" } : Jvm.MethodName)) ∈ gtbl := gt8 (i := 191) rfl rfl
theorem q_1872 : (Cond.code ({ cls := "FlatPlanModel", name := "choices", desc := "(I)I" } : Jvm.MethodName) prog_13_method_93_code (2 : Nat) (Option.some FieldType.int)) ∈ gtbl := gt8 (i := 192) rfl rfl
theorem q_1873 : (Cond.methodLink "FlatPlanModel" (255 : Nat) ({ cls := "FlatPlanModel", name := "choicesOf", desc := "(I)I" } : Jvm.MethodName)) ∈ gtbl := gt8 (i := 193) rfl rfl
theorem q_1875 : (Cond.instanceMethod ({ cls := "FlatPlanModel", name := "choicesOf", desc := "(I)I" } : Jvm.MethodName)) ∈ gtbl := gt8 (i := 195) rfl rfl
theorem q_1876 : (Cond.code ({ cls := "FlatPlanModel", name := "choicesOf", desc := "(I)I" } : Jvm.MethodName) prog_13_method_92_code (4 : Nat) (Option.some FieldType.int)) ∈ gtbl := gt8 (i := 196) rfl rfl
theorem q_1877 : (Cond.methodLink "FlatPlanLaw" (253 : Nat) ({ cls := "FlatPlanModel", name := "firstPage", desc := "(II)I" } : Jvm.MethodName)) ∈ gtbl := gt8 (i := 197) rfl rfl
theorem q_1878 : (Cond.instanceMethod ({ cls := "FlatPlanModel", name := "firstPage", desc := "(II)I" } : Jvm.MethodName)) ∈ gtbl := gt8 (i := 198) rfl rfl
theorem q_1879 : (Cond.selects "FlatPlanModel" ({ cls := "FlatPlanModel", name := "firstPage", desc := "(II)I" } : Jvm.MethodName) ({ cls := "FlatPlanModel", name := "firstPage", desc := "(II)I" } : Jvm.MethodName)) ∈ gtbl := gt8 (i := 199) rfl rfl
theorem q_1880 : (Cond.code ({ cls := "FlatPlanModel", name := "firstPage", desc := "(II)I" } : Jvm.MethodName) prog_13_method_94_code (3 : Nat) (Option.some FieldType.int)) ∈ gtbl := gt8 (i := 200) rfl rfl
theorem q_1881 : (Cond.methodLink "FlatPlanLaw" (257 : Nat) ({ cls := "FlatPlanModel", name := "tightest", desc := "()I" } : Jvm.MethodName)) ∈ gtbl := gt8 (i := 201) rfl rfl
theorem q_1882 : (Cond.instanceMethod ({ cls := "FlatPlanModel", name := "tightest", desc := "()I" } : Jvm.MethodName)) ∈ gtbl := gt8 (i := 202) rfl rfl
theorem q_1883 : (Cond.selects "FlatPlanModel" ({ cls := "FlatPlanModel", name := "tightest", desc := "()I" } : Jvm.MethodName) ({ cls := "FlatPlanModel", name := "tightest", desc := "()I" } : Jvm.MethodName)) ∈ gtbl := gt8 (i := 203) rfl rfl
theorem q_1884 : (Cond.code ({ cls := "FlatPlanModel", name := "tightest", desc := "()I" } : Jvm.MethodName) prog_13_method_95_code (5 : Nat) (Option.some FieldType.int)) ∈ gtbl := gt8 (i := 204) rfl rfl
theorem q_1885 : (Cond.methodLink "FlatPlanLaw" (260 : Nat) ({ cls := "FlatPlanModel", name := "eviction", desc := "(II)I" } : Jvm.MethodName)) ∈ gtbl := gt8 (i := 205) rfl rfl
theorem q_1886 : (Cond.instanceMethod ({ cls := "FlatPlanModel", name := "eviction", desc := "(II)I" } : Jvm.MethodName)) ∈ gtbl := gt8 (i := 206) rfl rfl
theorem q_1887 : (Cond.selects "FlatPlanModel" ({ cls := "FlatPlanModel", name := "eviction", desc := "(II)I" } : Jvm.MethodName) ({ cls := "FlatPlanModel", name := "eviction", desc := "(II)I" } : Jvm.MethodName)) ∈ gtbl := gt8 (i := 207) rfl rfl
theorem q_1888 : (Cond.code ({ cls := "FlatPlanModel", name := "eviction", desc := "(II)I" } : Jvm.MethodName) prog_13_method_98_code (3 : Nat) (Option.some FieldType.int)) ∈ gtbl := gt8 (i := 208) rfl rfl
theorem q_1889 : (Cond.methodLink "FlatPlanModel" (261 : Nat) ({ cls := "FlatPlanModel", name := "evictionOf", desc := "(II)I" } : Jvm.MethodName)) ∈ gtbl := gt8 (i := 209) rfl rfl
theorem q_1891 : (Cond.instanceMethod ({ cls := "FlatPlanModel", name := "evictionOf", desc := "(II)I" } : Jvm.MethodName)) ∈ gtbl := gt8 (i := 211) rfl rfl
theorem q_1892 : (Cond.code ({ cls := "FlatPlanModel", name := "evictionOf", desc := "(II)I" } : Jvm.MethodName) prog_13_method_97_code (9 : Nat) (Option.some FieldType.int)) ∈ gtbl := gt8 (i := 212) rfl rfl
theorem q_1893 : (Cond.methodLink "FlatPlanModel" (258 : Nat) ({ cls := "FlatPlanModel", name := "leastOf", desc := "(II)I" } : Jvm.MethodName)) ∈ gtbl := gt8 (i := 213) rfl rfl
theorem q_1895 : (Cond.instanceMethod ({ cls := "FlatPlanModel", name := "leastOf", desc := "(II)I" } : Jvm.MethodName)) ∈ gtbl := gt8 (i := 215) rfl rfl
theorem q_1896 : (Cond.code ({ cls := "FlatPlanModel", name := "leastOf", desc := "(II)I" } : Jvm.MethodName) prog_13_method_96_code (8 : Nat) (Option.some FieldType.int)) ∈ gtbl := gt8 (i := 216) rfl rfl
theorem q_1897 : (Cond.methodLink "FlatPlanLaw" (263 : Nat) ({ cls := "FlatPlanModel", name := "cheapestPage", desc := "(I)I" } : Jvm.MethodName)) ∈ gtbl := gt8 (i := 217) rfl rfl
theorem q_1898 : (Cond.instanceMethod ({ cls := "FlatPlanModel", name := "cheapestPage", desc := "(I)I" } : Jvm.MethodName)) ∈ gtbl := gt8 (i := 218) rfl rfl
theorem q_1899 : (Cond.selects "FlatPlanModel" ({ cls := "FlatPlanModel", name := "cheapestPage", desc := "(I)I" } : Jvm.MethodName) ({ cls := "FlatPlanModel", name := "cheapestPage", desc := "(I)I" } : Jvm.MethodName)) ∈ gtbl := gt8 (i := 219) rfl rfl
theorem q_1900 : (Cond.code ({ cls := "FlatPlanModel", name := "cheapestPage", desc := "(I)I" } : Jvm.MethodName) prog_13_method_99_code (6 : Nat) (Option.some FieldType.int)) ∈ gtbl := gt8 (i := 220) rfl rfl
theorem q_1901 : (Cond.methodLink "FlatPlanLaw" (267 : Nat) ({ cls := "FlatPlanModel", name := "matching", desc := "()I" } : Jvm.MethodName)) ∈ gtbl := gt8 (i := 221) rfl rfl
theorem q_1902 : (Cond.instanceMethod ({ cls := "FlatPlanModel", name := "matching", desc := "()I" } : Jvm.MethodName)) ∈ gtbl := gt8 (i := 222) rfl rfl
theorem q_1903 : (Cond.selects "FlatPlanModel" ({ cls := "FlatPlanModel", name := "matching", desc := "()I" } : Jvm.MethodName) ({ cls := "FlatPlanModel", name := "matching", desc := "()I" } : Jvm.MethodName)) ∈ gtbl := gt8 (i := 223) rfl rfl
theorem q_1904 : (Cond.code ({ cls := "FlatPlanModel", name := "matching", desc := "()I" } : Jvm.MethodName) prog_13_method_102_code (3 : Nat) (Option.some FieldType.int)) ∈ gtbl := gt8 (i := 224) rfl rfl
theorem q_1905 : (Cond.methodLink "FlatPlanModel" (267 : Nat) ({ cls := "FlatPlanModel", name := "joins", desc := "(I)Z" } : Jvm.MethodName)) ∈ gtbl := gt8 (i := 225) rfl rfl
theorem q_1907 : (Cond.instanceMethod ({ cls := "FlatPlanModel", name := "joins", desc := "(I)Z" } : Jvm.MethodName)) ∈ gtbl := gt8 (i := 227) rfl rfl
theorem q_1908 : (Cond.code ({ cls := "FlatPlanModel", name := "joins", desc := "(I)Z" } : Jvm.MethodName) prog_13_method_100_code (6 : Nat) (Option.some FieldType.boolean)) ∈ gtbl := gt8 (i := 228) rfl rfl
theorem q_1909 : (Cond.methodLink "FlatPlanModel" (264 : Nat) ({ cls := "FlatPlanModel", name := "givesBack", desc := "(II)V" } : Jvm.MethodName)) ∈ gtbl := gt8 (i := 229) rfl rfl
theorem q_1911 : (Cond.instanceMethod ({ cls := "FlatPlanModel", name := "givesBack", desc := "(II)V" } : Jvm.MethodName)) ∈ gtbl := gt8 (i := 231) rfl rfl
theorem q_1912 : (Cond.code ({ cls := "FlatPlanModel", name := "givesBack", desc := "(II)V" } : Jvm.MethodName) prog_13_method_101_code (4 : Nat) (Option.none : Option FieldType)) ∈ gtbl := gt8 (i := 232) rfl rfl
theorem q_1913 : (Cond.methodLink "FlatPlanLaw" (270 : Nat) ({ cls := "FlatPlanModel", name := "bestColor", desc := "(I)I" } : Jvm.MethodName)) ∈ gtbl := gt8 (i := 233) rfl rfl
theorem q_1914 : (Cond.instanceMethod ({ cls := "FlatPlanModel", name := "bestColor", desc := "(I)I" } : Jvm.MethodName)) ∈ gtbl := gt8 (i := 234) rfl rfl
theorem q_1915 : (Cond.selects "FlatPlanModel" ({ cls := "FlatPlanModel", name := "bestColor", desc := "(I)I" } : Jvm.MethodName) ({ cls := "FlatPlanModel", name := "bestColor", desc := "(I)I" } : Jvm.MethodName)) ∈ gtbl := gt8 (i := 235) rfl rfl
theorem q_1916 : (Cond.code ({ cls := "FlatPlanModel", name := "bestColor", desc := "(I)I" } : Jvm.MethodName) prog_13_method_103_code (8 : Nat) (Option.some FieldType.int)) ∈ gtbl := gt8 (i := 236) rfl rfl
theorem q_1917 : (Cond.constantLong "FlatPlanModel" (270 : Nat) (8 : Int64)) ∈ gtbl := gt8 (i := 237) rfl rfl
theorem q_1918 : (Cond.methodLink "FlatPlanLaw" (274 : Nat) ({ cls := "FlatPlanModel", name := "nearRivals", desc := "()I" } : Jvm.MethodName)) ∈ gtbl := gt8 (i := 238) rfl rfl
theorem q_1919 : (Cond.instanceMethod ({ cls := "FlatPlanModel", name := "nearRivals", desc := "()I" } : Jvm.MethodName)) ∈ gtbl := gt8 (i := 239) rfl rfl
theorem q_1920 : (Cond.selects "FlatPlanModel" ({ cls := "FlatPlanModel", name := "nearRivals", desc := "()I" } : Jvm.MethodName) ({ cls := "FlatPlanModel", name := "nearRivals", desc := "()I" } : Jvm.MethodName)) ∈ gtbl := gt9 (i := 0) rfl rfl
theorem q_1921 : (Cond.code ({ cls := "FlatPlanModel", name := "nearRivals", desc := "()I" } : Jvm.MethodName) prog_13_method_104_code (5 : Nat) (Option.some FieldType.int)) ∈ gtbl := gt9 (i := 1) rfl rfl
theorem q_1922 : (Cond.methodLink "FlatPlanLaw" (277 : Nat) ({ cls := "FlatPlanModel", name := "groupOn", desc := "(II)I" } : Jvm.MethodName)) ∈ gtbl := gt9 (i := 2) rfl rfl
theorem q_1923 : (Cond.instanceMethod ({ cls := "FlatPlanModel", name := "groupOn", desc := "(II)I" } : Jvm.MethodName)) ∈ gtbl := gt9 (i := 3) rfl rfl
theorem q_1924 : (Cond.selects "FlatPlanModel" ({ cls := "FlatPlanModel", name := "groupOn", desc := "(II)I" } : Jvm.MethodName) ({ cls := "FlatPlanModel", name := "groupOn", desc := "(II)I" } : Jvm.MethodName)) ∈ gtbl := gt9 (i := 4) rfl rfl
theorem q_1925 : (Cond.code ({ cls := "FlatPlanModel", name := "groupOn", desc := "(II)I" } : Jvm.MethodName) prog_13_method_106_code (3 : Nat) (Option.some FieldType.int)) ∈ gtbl := gt9 (i := 5) rfl rfl
theorem q_1926 : (Cond.methodLink "FlatPlanModel" (272 : Nat) ({ cls := "FlatPlanModel", name := "ofGroupOn", desc := "(II)I" } : Jvm.MethodName)) ∈ gtbl := gt9 (i := 6) rfl rfl
theorem q_1928 : (Cond.instanceMethod ({ cls := "FlatPlanModel", name := "ofGroupOn", desc := "(II)I" } : Jvm.MethodName)) ∈ gtbl := gt9 (i := 8) rfl rfl
theorem q_1929 : (Cond.code ({ cls := "FlatPlanModel", name := "ofGroupOn", desc := "(II)I" } : Jvm.MethodName) prog_13_method_105_code (5 : Nat) (Option.some FieldType.int)) ∈ gtbl := gt9 (i := 9) rfl rfl
theorem q_1930 : (Cond.methodLink "FlatPlanLaw" (280 : Nat) ({ cls := "FlatPlanModel", name := "spreadsOf", desc := "(I)I" } : Jvm.MethodName)) ∈ gtbl := gt9 (i := 10) rfl rfl
theorem q_1931 : (Cond.instanceMethod ({ cls := "FlatPlanModel", name := "spreadsOf", desc := "(I)I" } : Jvm.MethodName)) ∈ gtbl := gt9 (i := 11) rfl rfl
theorem q_1932 : (Cond.selects "FlatPlanModel" ({ cls := "FlatPlanModel", name := "spreadsOf", desc := "(I)I" } : Jvm.MethodName) ({ cls := "FlatPlanModel", name := "spreadsOf", desc := "(I)I" } : Jvm.MethodName)) ∈ gtbl := gt9 (i := 12) rfl rfl
theorem q_1933 : (Cond.code ({ cls := "FlatPlanModel", name := "spreadsOf", desc := "(I)I" } : Jvm.MethodName) prog_13_method_107_code (4 : Nat) (Option.some FieldType.int)) ∈ gtbl := gt9 (i := 13) rfl rfl
theorem q_1934 : (Cond.methodLink "FlatPlanLaw" (284 : Nat) ({ cls := "FlatPlanModel", name := "revenue", desc := "()I" } : Jvm.MethodName)) ∈ gtbl := gt9 (i := 14) rfl rfl
theorem q_1935 : (Cond.instanceMethod ({ cls := "FlatPlanModel", name := "revenue", desc := "()I" } : Jvm.MethodName)) ∈ gtbl := gt9 (i := 15) rfl rfl
theorem q_1936 : (Cond.selects "FlatPlanModel" ({ cls := "FlatPlanModel", name := "revenue", desc := "()I" } : Jvm.MethodName) ({ cls := "FlatPlanModel", name := "revenue", desc := "()I" } : Jvm.MethodName)) ∈ gtbl := gt9 (i := 16) rfl rfl
theorem q_1937 : (Cond.code ({ cls := "FlatPlanModel", name := "revenue", desc := "()I" } : Jvm.MethodName) prog_13_method_109_code (1 : Nat) (Option.some FieldType.int)) ∈ gtbl := gt9 (i := 17) rfl rfl
theorem q_1938 : (Cond.methodLink "FlatPlanModel" (275 : Nat) ({ cls := "FlatPlanModel", name := "revenueBy", desc := "(I)I" } : Jvm.MethodName)) ∈ gtbl := gt9 (i := 18) rfl rfl
theorem q_1940 : (Cond.instanceMethod ({ cls := "FlatPlanModel", name := "revenueBy", desc := "(I)I" } : Jvm.MethodName)) ∈ gtbl := gt9 (i := 20) rfl rfl
theorem q_1941 : (Cond.code ({ cls := "FlatPlanModel", name := "revenueBy", desc := "(I)I" } : Jvm.MethodName) prog_13_method_108_code (4 : Nat) (Option.some FieldType.int)) ∈ gtbl := gt9 (i := 21) rfl rfl
theorem q_1942 : (Cond.methodLink "FlatPlanLaw" (287 : Nat) ({ cls := "FlatPlanModel", name := "revenueOf", desc := "(I)I" } : Jvm.MethodName)) ∈ gtbl := gt9 (i := 22) rfl rfl
theorem q_1943 : (Cond.instanceMethod ({ cls := "FlatPlanModel", name := "revenueOf", desc := "(I)I" } : Jvm.MethodName)) ∈ gtbl := gt9 (i := 23) rfl rfl
theorem q_1944 : (Cond.selects "FlatPlanModel" ({ cls := "FlatPlanModel", name := "revenueOf", desc := "(I)I" } : Jvm.MethodName) ({ cls := "FlatPlanModel", name := "revenueOf", desc := "(I)I" } : Jvm.MethodName)) ∈ gtbl := gt9 (i := 24) rfl rfl
theorem q_1945 : (Cond.code ({ cls := "FlatPlanModel", name := "revenueOf", desc := "(I)I" } : Jvm.MethodName) prog_13_method_110_code (4 : Nat) (Option.some FieldType.int)) ∈ gtbl := gt9 (i := 25) rfl rfl
theorem q_1946 : (Cond.methodLink "FlatPlanLaw" (290 : Nat) ({ cls := "FlatPlanModel", name := "revenueOfGroup", desc := "(I)I" } : Jvm.MethodName)) ∈ gtbl := gt9 (i := 26) rfl rfl
theorem q_1947 : (Cond.instanceMethod ({ cls := "FlatPlanModel", name := "revenueOfGroup", desc := "(I)I" } : Jvm.MethodName)) ∈ gtbl := gt9 (i := 27) rfl rfl
theorem q_1948 : (Cond.selects "FlatPlanModel" ({ cls := "FlatPlanModel", name := "revenueOfGroup", desc := "(I)I" } : Jvm.MethodName) ({ cls := "FlatPlanModel", name := "revenueOfGroup", desc := "(I)I" } : Jvm.MethodName)) ∈ gtbl := gt9 (i := 28) rfl rfl
theorem q_1949 : (Cond.code ({ cls := "FlatPlanModel", name := "revenueOfGroup", desc := "(I)I" } : Jvm.MethodName) prog_13_method_111_code (2 : Nat) (Option.some FieldType.int)) ∈ gtbl := gt9 (i := 29) rfl rfl
theorem q_1950 : (Cond.methodLink "FlatPlanLaw" (302 : Nat) ({ cls := "FlatPlanModel", name := "lateItem", desc := "(I)I" } : Jvm.MethodName)) ∈ gtbl := gt9 (i := 30) rfl rfl
theorem q_1951 : (Cond.instanceMethod ({ cls := "FlatPlanModel", name := "lateItem", desc := "(I)I" } : Jvm.MethodName)) ∈ gtbl := gt9 (i := 31) rfl rfl
theorem q_1952 : (Cond.selects "FlatPlanModel" ({ cls := "FlatPlanModel", name := "lateItem", desc := "(I)I" } : Jvm.MethodName) ({ cls := "FlatPlanModel", name := "lateItem", desc := "(I)I" } : Jvm.MethodName)) ∈ gtbl := gt9 (i := 32) rfl rfl
theorem q_1953 : (Cond.code ({ cls := "FlatPlanModel", name := "lateItem", desc := "(I)I" } : Jvm.MethodName) prog_13_method_116_code (5 : Nat) (Option.some FieldType.int)) ∈ gtbl := gt9 (i := 33) rfl rfl
theorem q_1954 : (Cond.methodLink "FlatPlanModel" (287 : Nat) ({ cls := "FlatPlanModel", name := "isLateItem", desc := "(I)Z" } : Jvm.MethodName)) ∈ gtbl := gt9 (i := 34) rfl rfl
theorem q_1956 : (Cond.instanceMethod ({ cls := "FlatPlanModel", name := "isLateItem", desc := "(I)Z" } : Jvm.MethodName)) ∈ gtbl := gt9 (i := 36) rfl rfl
theorem q_1957 : (Cond.code ({ cls := "FlatPlanModel", name := "isLateItem", desc := "(I)Z" } : Jvm.MethodName) prog_13_method_115_code (2 : Nat) (Option.some FieldType.boolean)) ∈ gtbl := gt9 (i := 37) rfl rfl
theorem q_1958 : (Cond.methodLink "FlatPlanModel" (278 : Nat) ({ cls := "FlatPlanModel", name := "isItem", desc := "(I)Z" } : Jvm.MethodName)) ∈ gtbl := gt9 (i := 38) rfl rfl
theorem q_1960 : (Cond.instanceMethod ({ cls := "FlatPlanModel", name := "isItem", desc := "(I)Z" } : Jvm.MethodName)) ∈ gtbl := gt9 (i := 40) rfl rfl
theorem q_1961 : (Cond.code ({ cls := "FlatPlanModel", name := "isItem", desc := "(I)Z" } : Jvm.MethodName) prog_13_method_114_code (2 : Nat) (Option.some FieldType.boolean)) ∈ gtbl := gt9 (i := 41) rfl rfl
theorem q_1962 : (Cond.methodLink "FlatPlanModel" (281 : Nat) ({ cls := "FlatPlanModel", name := "readyOf", desc := "(I)I" } : Jvm.MethodName)) ∈ gtbl := gt9 (i := 42) rfl rfl
theorem q_1964 : (Cond.instanceMethod ({ cls := "FlatPlanModel", name := "readyOf", desc := "(I)I" } : Jvm.MethodName)) ∈ gtbl := gt9 (i := 44) rfl rfl
theorem q_1965 : (Cond.code ({ cls := "FlatPlanModel", name := "readyOf", desc := "(I)I" } : Jvm.MethodName) prog_13_method_113_code (2 : Nat) (Option.some FieldType.int)) ∈ gtbl := gt9 (i := 45) rfl rfl
theorem q_1966 : (Cond.methodLink "FlatPlanModel" (284 : Nat) ({ cls := "FlatPlanModel", name := "isOnOpenForm", desc := "(I)Z" } : Jvm.MethodName)) ∈ gtbl := gt9 (i := 46) rfl rfl
theorem q_1968 : (Cond.instanceMethod ({ cls := "FlatPlanModel", name := "isOnOpenForm", desc := "(I)Z" } : Jvm.MethodName)) ∈ gtbl := gt9 (i := 48) rfl rfl
theorem q_1969 : (Cond.code ({ cls := "FlatPlanModel", name := "isOnOpenForm", desc := "(I)Z" } : Jvm.MethodName) prog_13_method_112_code (4 : Nat) (Option.some FieldType.boolean)) ∈ gtbl := gt9 (i := 49) rfl rfl
theorem q_1970 : (Cond.methodLink "FlatPlanLaw" (306 : Nat) ({ cls := "FlatPlanModel", name := "lastReady", desc := "()I" } : Jvm.MethodName)) ∈ gtbl := gt9 (i := 50) rfl rfl
theorem q_1971 : (Cond.instanceMethod ({ cls := "FlatPlanModel", name := "lastReady", desc := "()I" } : Jvm.MethodName)) ∈ gtbl := gt9 (i := 51) rfl rfl
theorem q_1972 : (Cond.selects "FlatPlanModel" ({ cls := "FlatPlanModel", name := "lastReady", desc := "()I" } : Jvm.MethodName) ({ cls := "FlatPlanModel", name := "lastReady", desc := "()I" } : Jvm.MethodName)) ∈ gtbl := gt9 (i := 52) rfl rfl
theorem q_1973 : (Cond.code ({ cls := "FlatPlanModel", name := "lastReady", desc := "()I" } : Jvm.MethodName) prog_13_method_117_code (3 : Nat) (Option.some FieldType.int)) ∈ gtbl := gt9 (i := 53) rfl rfl
theorem q_1974 : (Cond.methodLink "FlatPlanLaw" (310 : Nat) ({ cls := "FlatPlanModel", name := "betterExchange", desc := "()I" } : Jvm.MethodName)) ∈ gtbl := gt9 (i := 54) rfl rfl
theorem q_1975 : (Cond.instanceMethod ({ cls := "FlatPlanModel", name := "betterExchange", desc := "()I" } : Jvm.MethodName)) ∈ gtbl := gt9 (i := 55) rfl rfl
theorem q_1976 : (Cond.selects "FlatPlanModel" ({ cls := "FlatPlanModel", name := "betterExchange", desc := "()I" } : Jvm.MethodName) ({ cls := "FlatPlanModel", name := "betterExchange", desc := "()I" } : Jvm.MethodName)) ∈ gtbl := gt9 (i := 56) rfl rfl
theorem q_1977 : (Cond.code ({ cls := "FlatPlanModel", name := "betterExchange", desc := "()I" } : Jvm.MethodName) prog_13_method_119_code (6 : Nat) (Option.some FieldType.int)) ∈ gtbl := gt9 (i := 57) rfl rfl
theorem q_1978 : (Cond.methodLink "FlatPlanModel" (290 : Nat) ({ cls := "FlatPlanModel", name := "coloredForms", desc := "()I" } : Jvm.MethodName)) ∈ gtbl := gt9 (i := 58) rfl rfl
theorem q_1980 : (Cond.instanceMethod ({ cls := "FlatPlanModel", name := "coloredForms", desc := "()I" } : Jvm.MethodName)) ∈ gtbl := gt9 (i := 60) rfl rfl
theorem q_1981 : (Cond.code ({ cls := "FlatPlanModel", name := "coloredForms", desc := "()I" } : Jvm.MethodName) prog_13_method_118_code (3 : Nat) (Option.some FieldType.int)) ∈ gtbl := gt9 (i := 61) rfl rfl
theorem q_1982 : (Cond.methodLink "FlatPlanLaw" (313 : Nat) ({ cls := "FlatPlanModel", name := "emptyRun", desc := "(I)I" } : Jvm.MethodName)) ∈ gtbl := gt9 (i := 62) rfl rfl
theorem q_1983 : (Cond.instanceMethod ({ cls := "FlatPlanModel", name := "emptyRun", desc := "(I)I" } : Jvm.MethodName)) ∈ gtbl := gt9 (i := 63) rfl rfl
theorem q_1984 : (Cond.selects "FlatPlanModel" ({ cls := "FlatPlanModel", name := "emptyRun", desc := "(I)I" } : Jvm.MethodName) ({ cls := "FlatPlanModel", name := "emptyRun", desc := "(I)I" } : Jvm.MethodName)) ∈ gtbl := gt9 (i := 64) rfl rfl
theorem q_1985 : (Cond.code ({ cls := "FlatPlanModel", name := "emptyRun", desc := "(I)I" } : Jvm.MethodName) prog_13_method_120_code (4 : Nat) (Option.some FieldType.int)) ∈ gtbl := gt9 (i := 65) rfl rfl
theorem q_1986 : (Cond.constantLong "FlatPlanModel" (293 : Nat) (64 : Int64)) ∈ gtbl := gt9 (i := 66) rfl rfl
theorem q_1987 : (Cond.methodLink "FlatPlanLaw" (317 : Nat) ({ cls := "FlatPlanModel", name := "emptiest", desc := "(I)I" } : Jvm.MethodName)) ∈ gtbl := gt9 (i := 67) rfl rfl
theorem q_1988 : (Cond.instanceMethod ({ cls := "FlatPlanModel", name := "emptiest", desc := "(I)I" } : Jvm.MethodName)) ∈ gtbl := gt9 (i := 68) rfl rfl
theorem q_1989 : (Cond.selects "FlatPlanModel" ({ cls := "FlatPlanModel", name := "emptiest", desc := "(I)I" } : Jvm.MethodName) ({ cls := "FlatPlanModel", name := "emptiest", desc := "(I)I" } : Jvm.MethodName)) ∈ gtbl := gt9 (i := 69) rfl rfl
theorem q_1990 : (Cond.code ({ cls := "FlatPlanModel", name := "emptiest", desc := "(I)I" } : Jvm.MethodName) prog_13_method_121_code (5 : Nat) (Option.some FieldType.int)) ∈ gtbl := gt9 (i := 70) rfl rfl
theorem q_1991 : (Cond.methodLink "FlatPlanLaw" (321 : Nat) ({ cls := "FlatPlanModel", name := "fill", desc := "()D" } : Jvm.MethodName)) ∈ gtbl := gt9 (i := 71) rfl rfl
theorem q_1992 : (Cond.instanceMethod ({ cls := "FlatPlanModel", name := "fill", desc := "()D" } : Jvm.MethodName)) ∈ gtbl := gt9 (i := 72) rfl rfl
theorem q_1993 : (Cond.selects "FlatPlanModel" ({ cls := "FlatPlanModel", name := "fill", desc := "()D" } : Jvm.MethodName) ({ cls := "FlatPlanModel", name := "fill", desc := "()D" } : Jvm.MethodName)) ∈ gtbl := gt9 (i := 73) rfl rfl
theorem q_1994 : (Cond.code ({ cls := "FlatPlanModel", name := "fill", desc := "()D" } : Jvm.MethodName) prog_13_method_122_code (3 : Nat) (Option.some FieldType.double)) ∈ gtbl := gt9 (i := 74) rfl rfl
theorem q_1995 : (Cond.methodLink "FlatPlanLaw" (325 : Nat) ({ cls := "FlatPlanModel", name := "quarterPrice", desc := "()D" } : Jvm.MethodName)) ∈ gtbl := gt9 (i := 75) rfl rfl
theorem q_1996 : (Cond.instanceMethod ({ cls := "FlatPlanModel", name := "quarterPrice", desc := "()D" } : Jvm.MethodName)) ∈ gtbl := gt9 (i := 76) rfl rfl
theorem q_1997 : (Cond.selects "FlatPlanModel" ({ cls := "FlatPlanModel", name := "quarterPrice", desc := "()D" } : Jvm.MethodName) ({ cls := "FlatPlanModel", name := "quarterPrice", desc := "()D" } : Jvm.MethodName)) ∈ gtbl := gt9 (i := 77) rfl rfl
theorem q_1998 : (Cond.code ({ cls := "FlatPlanModel", name := "quarterPrice", desc := "()D" } : Jvm.MethodName) prog_13_method_123_code (3 : Nat) (Option.some FieldType.double)) ∈ gtbl := gt9 (i := 78) rfl rfl
theorem q_1999 : (Cond.methodLink "FlatPlanLaw" (328 : Nat) ({ cls := "FlatPlanModel", name := "describe", desc := "(I)I" } : Jvm.MethodName)) ∈ gtbl := gt9 (i := 79) rfl rfl
theorem q_2000 : (Cond.instanceMethod ({ cls := "FlatPlanModel", name := "describe", desc := "(I)I" } : Jvm.MethodName)) ∈ gtbl := gt9 (i := 80) rfl rfl
theorem q_2001 : (Cond.selects "FlatPlanModel" ({ cls := "FlatPlanModel", name := "describe", desc := "(I)I" } : Jvm.MethodName) ({ cls := "FlatPlanModel", name := "describe", desc := "(I)I" } : Jvm.MethodName)) ∈ gtbl := gt9 (i := 81) rfl rfl
theorem q_2002 : (Cond.code ({ cls := "FlatPlanModel", name := "describe", desc := "(I)I" } : Jvm.MethodName) prog_13_method_126_code (3 : Nat) (Option.some FieldType.int)) ∈ gtbl := gt9 (i := 82) rfl rfl
theorem q_2003 : (Cond.methodLink "FlatPlanModel" (301 : Nat) ({ cls := "FlatPlanModel", name := "writeItem", desc := "(II)V" } : Jvm.MethodName)) ∈ gtbl := gt9 (i := 83) rfl rfl
theorem q_2005 : (Cond.instanceMethod ({ cls := "FlatPlanModel", name := "writeItem", desc := "(II)V" } : Jvm.MethodName)) ∈ gtbl := gt9 (i := 85) rfl rfl
theorem q_2006 : (Cond.code ({ cls := "FlatPlanModel", name := "writeItem", desc := "(II)V" } : Jvm.MethodName) prog_13_method_125_code (3 : Nat) (Option.none : Option FieldType)) ∈ gtbl := gt9 (i := 86) rfl rfl
theorem q_2007 : (Cond.methodLink "FlatPlanModel" (298 : Nat) ({ cls := "FlatPlanModel", name := "write", desc := "(I)V" } : Jvm.MethodName)) ∈ gtbl := gt9 (i := 87) rfl rfl
theorem q_2009 : (Cond.instanceMethod ({ cls := "FlatPlanModel", name := "write", desc := "(I)V" } : Jvm.MethodName)) ∈ gtbl := gt9 (i := 89) rfl rfl
theorem q_2010 : (Cond.code ({ cls := "FlatPlanModel", name := "write", desc := "(I)V" } : Jvm.MethodName) prog_13_method_124_code (2 : Nat) (Option.none : Option FieldType)) ∈ gtbl := gt9 (i := 90) rfl rfl
theorem q_2011 : (Cond.methodLink "FlatPlanLaw" (332 : Nat) ({ cls := "FlatPlanModel", name := "describedByte", desc := "(I)I" } : Jvm.MethodName)) ∈ gtbl := gt9 (i := 91) rfl rfl
theorem q_2012 : (Cond.instanceMethod ({ cls := "FlatPlanModel", name := "describedByte", desc := "(I)I" } : Jvm.MethodName)) ∈ gtbl := gt9 (i := 92) rfl rfl
theorem q_2013 : (Cond.selects "FlatPlanModel" ({ cls := "FlatPlanModel", name := "describedByte", desc := "(I)I" } : Jvm.MethodName) ({ cls := "FlatPlanModel", name := "describedByte", desc := "(I)I" } : Jvm.MethodName)) ∈ gtbl := gt9 (i := 93) rfl rfl
theorem q_2014 : (Cond.code ({ cls := "FlatPlanModel", name := "describedByte", desc := "(I)I" } : Jvm.MethodName) prog_13_method_127_code (2 : Nat) (Option.some FieldType.int)) ∈ gtbl := gt9 (i := 94) rfl rfl
theorem q_2015 : (Cond.methodLink "FlatPlanLaw" (336 : Nat) ({ cls := "FlatPlanModel", name := "digest", desc := "()I" } : Jvm.MethodName)) ∈ gtbl := gt9 (i := 95) rfl rfl
theorem q_2016 : (Cond.instanceMethod ({ cls := "FlatPlanModel", name := "digest", desc := "()I" } : Jvm.MethodName)) ∈ gtbl := gt9 (i := 96) rfl rfl
theorem q_2017 : (Cond.selects "FlatPlanModel" ({ cls := "FlatPlanModel", name := "digest", desc := "()I" } : Jvm.MethodName) ({ cls := "FlatPlanModel", name := "digest", desc := "()I" } : Jvm.MethodName)) ∈ gtbl := gt9 (i := 97) rfl rfl
theorem q_2018 : (Cond.code ({ cls := "FlatPlanModel", name := "digest", desc := "()I" } : Jvm.MethodName) prog_13_method_128_code (3 : Nat) (Option.some FieldType.int)) ∈ gtbl := gt9 (i := 98) rfl rfl
theorem q_2019 : (Cond.methodLink "FlatPlanLaw" (135 : Nat) ({ cls := "FlatPlanModel", name := "appendInput", desc := "(IIIII)I" } : Jvm.MethodName)) ∈ gtbl := gt9 (i := 99) rfl rfl
theorem q_2020 : (Cond.instanceMethod ({ cls := "FlatPlanModel", name := "appendInput", desc := "(IIIII)I" } : Jvm.MethodName)) ∈ gtbl := gt9 (i := 100) rfl rfl
theorem q_2021 : (Cond.selects "FlatPlanModel" ({ cls := "FlatPlanModel", name := "appendInput", desc := "(IIIII)I" } : Jvm.MethodName) ({ cls := "FlatPlanModel", name := "appendInput", desc := "(IIIII)I" } : Jvm.MethodName)) ∈ gtbl := gt9 (i := 101) rfl rfl
theorem q_2022 : (Cond.code ({ cls := "FlatPlanModel", name := "appendInput", desc := "(IIIII)I" } : Jvm.MethodName) prog_13_method_130_code (6 : Nat) (Option.some FieldType.int)) ∈ gtbl := gt9 (i := 102) rfl rfl
theorem q_2023 : (Cond.methodLink "FlatPlanModel" (307 : Nat) ({ cls := "FlatPlanModel", name := "appendBytes", desc := "(I)V" } : Jvm.MethodName)) ∈ gtbl := gt9 (i := 103) rfl rfl
theorem q_2025 : (Cond.instanceMethod ({ cls := "FlatPlanModel", name := "appendBytes", desc := "(I)V" } : Jvm.MethodName)) ∈ gtbl := gt9 (i := 105) rfl rfl
theorem q_2026 : (Cond.code ({ cls := "FlatPlanModel", name := "appendBytes", desc := "(I)V" } : Jvm.MethodName) prog_13_method_129_code (3 : Nat) (Option.none : Option FieldType)) ∈ gtbl := gt9 (i := 106) rfl rfl
theorem q_2027 : (Cond.methodLink "FlatPlanLaw" (139 : Nat) ({ cls := "FlatPlanModel", name := "truncateInput", desc := "(I)I" } : Jvm.MethodName)) ∈ gtbl := gt9 (i := 107) rfl rfl
theorem q_2028 : (Cond.instanceMethod ({ cls := "FlatPlanModel", name := "truncateInput", desc := "(I)I" } : Jvm.MethodName)) ∈ gtbl := gt9 (i := 108) rfl rfl
theorem q_2029 : (Cond.selects "FlatPlanModel" ({ cls := "FlatPlanModel", name := "truncateInput", desc := "(I)I" } : Jvm.MethodName) ({ cls := "FlatPlanModel", name := "truncateInput", desc := "(I)I" } : Jvm.MethodName)) ∈ gtbl := gt9 (i := 109) rfl rfl
theorem q_2030 : (Cond.code ({ cls := "FlatPlanModel", name := "truncateInput", desc := "(I)I" } : Jvm.MethodName) prog_13_method_131_code (2 : Nat) (Option.some FieldType.int)) ∈ gtbl := gt9 (i := 110) rfl rfl
theorem q_2031 : (Cond.methodLink "FlatPlanLaw" (148 : Nat) ({ cls := "FlatPlanModel", name := "errorCode", desc := "()I" } : Jvm.MethodName)) ∈ gtbl := gt9 (i := 111) rfl rfl
theorem q_2032 : (Cond.instanceMethod ({ cls := "FlatPlanModel", name := "errorCode", desc := "()I" } : Jvm.MethodName)) ∈ gtbl := gt9 (i := 112) rfl rfl
theorem q_2033 : (Cond.selects "FlatPlanModel" ({ cls := "FlatPlanModel", name := "errorCode", desc := "()I" } : Jvm.MethodName) ({ cls := "FlatPlanModel", name := "errorCode", desc := "()I" } : Jvm.MethodName)) ∈ gtbl := gt9 (i := 113) rfl rfl
theorem q_2034 : (Cond.code ({ cls := "FlatPlanModel", name := "errorCode", desc := "()I" } : Jvm.MethodName) prog_13_method_132_code (1 : Nat) (Option.some FieldType.int)) ∈ gtbl := gt9 (i := 114) rfl rfl
theorem q_2035 : (Cond.methodLink "FlatPlanLaw" (152 : Nat) ({ cls := "FlatPlanModel", name := "errorPosition", desc := "()I" } : Jvm.MethodName)) ∈ gtbl := gt9 (i := 115) rfl rfl
theorem q_2036 : (Cond.instanceMethod ({ cls := "FlatPlanModel", name := "errorPosition", desc := "()I" } : Jvm.MethodName)) ∈ gtbl := gt9 (i := 116) rfl rfl
theorem q_2037 : (Cond.selects "FlatPlanModel" ({ cls := "FlatPlanModel", name := "errorPosition", desc := "()I" } : Jvm.MethodName) ({ cls := "FlatPlanModel", name := "errorPosition", desc := "()I" } : Jvm.MethodName)) ∈ gtbl := gt9 (i := 117) rfl rfl
theorem q_2038 : (Cond.code ({ cls := "FlatPlanModel", name := "errorPosition", desc := "()I" } : Jvm.MethodName) prog_13_method_133_code (1 : Nat) (Option.some FieldType.int)) ∈ gtbl := gt9 (i := 118) rfl rfl
theorem q_2039 : (Cond.methodLink "FlatPlanLaw" (144 : Nat) ({ cls := "FlatPlanModel", name := "load", desc := "()I" } : Jvm.MethodName)) ∈ gtbl := gt9 (i := 119) rfl rfl
theorem q_2040 : (Cond.instanceMethod ({ cls := "FlatPlanModel", name := "load", desc := "()I" } : Jvm.MethodName)) ∈ gtbl := gt9 (i := 120) rfl rfl
theorem q_2041 : (Cond.selects "FlatPlanModel" ({ cls := "FlatPlanModel", name := "load", desc := "()I" } : Jvm.MethodName) ({ cls := "FlatPlanModel", name := "load", desc := "()I" } : Jvm.MethodName)) ∈ gtbl := gt9 (i := 121) rfl rfl
theorem q_2042 : (Cond.code ({ cls := "FlatPlanModel", name := "load", desc := "()I" } : Jvm.MethodName) prog_13_method_153_code (5 : Nat) (Option.some FieldType.int)) ∈ gtbl := gt9 (i := 122) rfl rfl
theorem q_2043 : (Cond.methodLink "FlatPlanModel" (355 : Nat) ({ cls := "FlatPlanModel", name := "advance", desc := "()V" } : Jvm.MethodName)) ∈ gtbl := gt9 (i := 123) rfl rfl
theorem q_2045 : (Cond.instanceMethod ({ cls := "FlatPlanModel", name := "advance", desc := "()V" } : Jvm.MethodName)) ∈ gtbl := gt9 (i := 125) rfl rfl
theorem q_2046 : (Cond.code ({ cls := "FlatPlanModel", name := "advance", desc := "()V" } : Jvm.MethodName) prog_13_method_137_code (2 : Nat) (Option.none : Option FieldType)) ∈ gtbl := gt9 (i := 126) rfl rfl
theorem q_2047 : (Cond.methodLink "FlatPlanModel" (324 : Nat) ({ cls := "FlatPlanModel", name := "byteAt", desc := "(I)I" } : Jvm.MethodName)) ∈ gtbl := gt9 (i := 127) rfl rfl
theorem q_2049 : (Cond.instanceMethod ({ cls := "FlatPlanModel", name := "byteAt", desc := "(I)I" } : Jvm.MethodName)) ∈ gtbl := gt9 (i := 129) rfl rfl
theorem q_2050 : (Cond.code ({ cls := "FlatPlanModel", name := "byteAt", desc := "(I)I" } : Jvm.MethodName) prog_13_method_134_code (2 : Nat) (Option.some FieldType.int)) ∈ gtbl := gt9 (i := 130) rfl rfl
theorem q_2051 : (Cond.methodLink "FlatPlanModel" (334 : Nat) ({ cls := "FlatPlanModel", name := "isLetter", desc := "(I)Z" } : Jvm.MethodName)) ∈ gtbl := gt9 (i := 131) rfl rfl
theorem q_2052 : (Cond.static ({ cls := "FlatPlanModel", name := "isLetter", desc := "(I)Z" } : Jvm.MethodName)) ∈ gtbl := gt9 (i := 132) rfl rfl
theorem q_2053 : (Cond.code ({ cls := "FlatPlanModel", name := "isLetter", desc := "(I)Z" } : Jvm.MethodName) prog_13_method_135_code (1 : Nat) (Option.some FieldType.boolean)) ∈ gtbl := gt9 (i := 133) rfl rfl
theorem q_2054 : (Cond.constantLong "FlatPlanModel" (313 : Nat) (97 : Int64)) ∈ gtbl := gt9 (i := 134) rfl rfl
theorem q_2055 : (Cond.constantLong "FlatPlanModel" (315 : Nat) (122 : Int64)) ∈ gtbl := gt9 (i := 135) rfl rfl
theorem q_2056 : (Cond.methodLink "FlatPlanModel" (337 : Nat) ({ cls := "FlatPlanModel", name := "isDigit", desc := "(I)Z" } : Jvm.MethodName)) ∈ gtbl := gt9 (i := 136) rfl rfl
theorem q_2057 : (Cond.static ({ cls := "FlatPlanModel", name := "isDigit", desc := "(I)Z" } : Jvm.MethodName)) ∈ gtbl := gt9 (i := 137) rfl rfl
theorem q_2058 : (Cond.code ({ cls := "FlatPlanModel", name := "isDigit", desc := "(I)Z" } : Jvm.MethodName) prog_13_method_136_code (1 : Nat) (Option.some FieldType.boolean)) ∈ gtbl := gt9 (i := 138) rfl rfl
theorem q_2059 : (Cond.constantLong "FlatPlanModel" (317 : Nat) (48 : Int64)) ∈ gtbl := gt9 (i := 139) rfl rfl
theorem q_2060 : (Cond.constantLong "FlatPlanModel" (319 : Nat) (57 : Int64)) ∈ gtbl := gt9 (i := 140) rfl rfl
theorem q_2061 : (Cond.constantLong "FlatPlanModel" (343 : Nat) (32 : Int64)) ∈ gtbl := gt9 (i := 141) rfl rfl
theorem q_2062 : (Cond.constantLong "FlatPlanModel" (345 : Nat) (96 : Int64)) ∈ gtbl := gt9 (i := 142) rfl rfl
theorem q_2063 : (Cond.constantLong "FlatPlanModel" (347 : Nat) (10 : Int64)) ∈ gtbl := gt9 (i := 143) rfl rfl
theorem q_2064 : (Cond.methodLink "FlatPlanModel" (376 : Nat) ({ cls := "FlatPlanModel", name := "pack", desc := "(IIIII)J" } : Jvm.MethodName)) ∈ gtbl := gt9 (i := 144) rfl rfl
theorem q_2065 : (Cond.static ({ cls := "FlatPlanModel", name := "pack", desc := "(IIIII)J" } : Jvm.MethodName)) ∈ gtbl := gt9 (i := 145) rfl rfl
theorem q_2066 : (Cond.code ({ cls := "FlatPlanModel", name := "pack", desc := "(IIIII)J" } : Jvm.MethodName) prog_13_method_143_code (7 : Nat) (Option.some FieldType.long)) ∈ gtbl := gt9 (i := 146) rfl rfl
theorem q_2067 : (Cond.methodLink "FlatPlanModel" (380 : Nat) ({ cls := "FlatPlanModel", name := "isWord", desc := "(J)Z" } : Jvm.MethodName)) ∈ gtbl := gt9 (i := 147) rfl rfl
theorem q_2069 : (Cond.instanceMethod ({ cls := "FlatPlanModel", name := "isWord", desc := "(J)Z" } : Jvm.MethodName)) ∈ gtbl := gt9 (i := 149) rfl rfl
theorem q_2070 : (Cond.code ({ cls := "FlatPlanModel", name := "isWord", desc := "(J)Z" } : Jvm.MethodName) prog_13_method_144_code (3 : Nat) (Option.some FieldType.boolean)) ∈ gtbl := gt9 (i := 150) rfl rfl
theorem q_2071 : (Cond.methodLink "FlatPlanModel" (407 : Nat) ({ cls := "FlatPlanModel", name := "readPlan", desc := "()Z" } : Jvm.MethodName)) ∈ gtbl := gt9 (i := 151) rfl rfl
theorem q_2073 : (Cond.instanceMethod ({ cls := "FlatPlanModel", name := "readPlan", desc := "()Z" } : Jvm.MethodName)) ∈ gtbl := gt9 (i := 153) rfl rfl
theorem q_2074 : (Cond.code ({ cls := "FlatPlanModel", name := "readPlan", desc := "()Z" } : Jvm.MethodName) prog_13_method_145_code (1 : Nat) (Option.some FieldType.boolean)) ∈ gtbl := gt9 (i := 154) rfl rfl
theorem q_2075 : (Cond.methodLink "FlatPlanModel" (358 : Nat) ({ cls := "FlatPlanModel", name := "readNumber", desc := "(II)Z" } : Jvm.MethodName)) ∈ gtbl := gt9 (i := 155) rfl rfl
theorem q_2077 : (Cond.instanceMethod ({ cls := "FlatPlanModel", name := "readNumber", desc := "(II)Z" } : Jvm.MethodName)) ∈ gtbl := gt9 (i := 157) rfl rfl
theorem q_2078 : (Cond.code ({ cls := "FlatPlanModel", name := "readNumber", desc := "(II)Z" } : Jvm.MethodName) prog_13_method_139_code (3 : Nat) (Option.some FieldType.boolean)) ∈ gtbl := gt9 (i := 158) rfl rfl
theorem q_2079 : (Cond.methodLink "FlatPlanModel" (349 : Nat) ({ cls := "FlatPlanModel", name := "fail", desc := "(I)Z" } : Jvm.MethodName)) ∈ gtbl := gt9 (i := 159) rfl rfl
theorem q_2081 : (Cond.instanceMethod ({ cls := "FlatPlanModel", name := "fail", desc := "(I)Z" } : Jvm.MethodName)) ∈ gtbl := gt9 (i := 161) rfl rfl
theorem q_2082 : (Cond.code ({ cls := "FlatPlanModel", name := "fail", desc := "(I)Z" } : Jvm.MethodName) prog_13_method_138_code (2 : Nat) (Option.some FieldType.boolean)) ∈ gtbl := gt9 (i := 162) rfl rfl
theorem q_2083 : (Cond.constantLong "FlatPlanModel" (365 : Nat) (4 : Int64)) ∈ gtbl := gt9 (i := 163) rfl rfl
theorem q_2084 : (Cond.constantLong "FlatPlanModel" (367 : Nat) (16 : Int64)) ∈ gtbl := gt9 (i := 164) rfl rfl
theorem q_2085 : (Cond.methodLink "FlatPlanModel" (369 : Nat) ({ cls := "FlatPlanModel", name := "readEnd", desc := "()Z" } : Jvm.MethodName)) ∈ gtbl := gt9 (i := 165) rfl rfl
theorem q_2087 : (Cond.instanceMethod ({ cls := "FlatPlanModel", name := "readEnd", desc := "()Z" } : Jvm.MethodName)) ∈ gtbl := gt9 (i := 167) rfl rfl
theorem q_2088 : (Cond.code ({ cls := "FlatPlanModel", name := "readEnd", desc := "()Z" } : Jvm.MethodName) prog_13_method_142_code (1 : Nat) (Option.some FieldType.boolean)) ∈ gtbl := gt9 (i := 168) rfl rfl
theorem q_2089 : (Cond.methodLink "FlatPlanModel" (410 : Nat) ({ cls := "FlatPlanModel", name := "readStatement", desc := "()Z" } : Jvm.MethodName)) ∈ gtbl := gt9 (i := 169) rfl rfl
theorem q_2091 : (Cond.instanceMethod ({ cls := "FlatPlanModel", name := "readStatement", desc := "()Z" } : Jvm.MethodName)) ∈ gtbl := gt9 (i := 171) rfl rfl
theorem q_2092 : (Cond.code ({ cls := "FlatPlanModel", name := "readStatement", desc := "()Z" } : Jvm.MethodName) prog_13_method_152_code (1 : Nat) (Option.some FieldType.boolean)) ∈ gtbl := gt9 (i := 172) rfl rfl
theorem q_2093 : (Cond.methodLink "FlatPlanModel" (384 : Nat) ({ cls := "FlatPlanModel", name := "readColor", desc := "()Z" } : Jvm.MethodName)) ∈ gtbl := gt9 (i := 173) rfl rfl
theorem q_2095 : (Cond.instanceMethod ({ cls := "FlatPlanModel", name := "readColor", desc := "()Z" } : Jvm.MethodName)) ∈ gtbl := gt9 (i := 175) rfl rfl
theorem q_2096 : (Cond.code ({ cls := "FlatPlanModel", name := "readColor", desc := "()Z" } : Jvm.MethodName) prog_13_method_146_code (1 : Nat) (Option.some FieldType.boolean)) ∈ gtbl := gt9 (i := 176) rfl rfl
theorem q_2097 : (Cond.methodLink "FlatPlanModel" (387 : Nat) ({ cls := "FlatPlanModel", name := "readAd", desc := "()Z" } : Jvm.MethodName)) ∈ gtbl := gt9 (i := 177) rfl rfl
theorem q_2099 : (Cond.instanceMethod ({ cls := "FlatPlanModel", name := "readAd", desc := "()Z" } : Jvm.MethodName)) ∈ gtbl := gt9 (i := 179) rfl rfl
theorem q_2100 : (Cond.code ({ cls := "FlatPlanModel", name := "readAd", desc := "()Z" } : Jvm.MethodName) prog_13_method_147_code (2 : Nat) (Option.some FieldType.boolean)) ∈ gtbl := gt9 (i := 180) rfl rfl
theorem q_2101 : (Cond.methodLink "FlatPlanModel" (373 : Nat) ({ cls := "FlatPlanModel", name := "readSize", desc := "(I)Z" } : Jvm.MethodName)) ∈ gtbl := gt9 (i := 181) rfl rfl
theorem q_2103 : (Cond.instanceMethod ({ cls := "FlatPlanModel", name := "readSize", desc := "(I)Z" } : Jvm.MethodName)) ∈ gtbl := gt9 (i := 183) rfl rfl
theorem q_2104 : (Cond.code ({ cls := "FlatPlanModel", name := "readSize", desc := "(I)Z" } : Jvm.MethodName) prog_13_method_141_code (2 : Nat) (Option.some FieldType.boolean)) ∈ gtbl := gt9 (i := 184) rfl rfl
theorem q_2105 : (Cond.methodLink "FlatPlanModel" (361 : Nat) ({ cls := "FlatPlanModel", name := "readInto", desc := "(III)Z" } : Jvm.MethodName)) ∈ gtbl := gt9 (i := 185) rfl rfl
theorem q_2107 : (Cond.instanceMethod ({ cls := "FlatPlanModel", name := "readInto", desc := "(III)Z" } : Jvm.MethodName)) ∈ gtbl := gt9 (i := 187) rfl rfl
theorem q_2108 : (Cond.code ({ cls := "FlatPlanModel", name := "readInto", desc := "(III)Z" } : Jvm.MethodName) prog_13_method_140_code (4 : Nat) (Option.some FieldType.boolean)) ∈ gtbl := gt9 (i := 188) rfl rfl
theorem q_2109 : (Cond.methodLink "FlatPlanModel" (390 : Nat) ({ cls := "FlatPlanModel", name := "readStory", desc := "()Z" } : Jvm.MethodName)) ∈ gtbl := gt9 (i := 189) rfl rfl
theorem q_2111 : (Cond.instanceMethod ({ cls := "FlatPlanModel", name := "readStory", desc := "()Z" } : Jvm.MethodName)) ∈ gtbl := gt9 (i := 191) rfl rfl
theorem q_2112 : (Cond.code ({ cls := "FlatPlanModel", name := "readStory", desc := "()Z" } : Jvm.MethodName) prog_13_method_148_code (2 : Nat) (Option.some FieldType.boolean)) ∈ gtbl := gt9 (i := 192) rfl rfl
theorem q_2113 : (Cond.constantLong "FlatPlanModel" (393 : Nat) (1024 : Int64)) ∈ gtbl := gt9 (i := 193) rfl rfl
theorem q_2114 : (Cond.constantLong "FlatPlanModel" (395 : Nat) (121 : Int64)) ∈ gtbl := gt9 (i := 194) rfl rfl
theorem q_2115 : (Cond.methodLink "FlatPlanModel" (397 : Nat) ({ cls := "FlatPlanModel", name := "readStandby", desc := "()Z" } : Jvm.MethodName)) ∈ gtbl := gt9 (i := 195) rfl rfl
theorem q_2117 : (Cond.instanceMethod ({ cls := "FlatPlanModel", name := "readStandby", desc := "()Z" } : Jvm.MethodName)) ∈ gtbl := gt9 (i := 197) rfl rfl
theorem q_2118 : (Cond.code ({ cls := "FlatPlanModel", name := "readStandby", desc := "()Z" } : Jvm.MethodName) prog_13_method_149_code (1 : Nat) (Option.some FieldType.boolean)) ∈ gtbl := gt9 (i := 198) rfl rfl
theorem q_2119 : (Cond.methodLink "FlatPlanModel" (400 : Nat) ({ cls := "FlatPlanModel", name := "readClosing", desc := "()Z" } : Jvm.MethodName)) ∈ gtbl := gt9 (i := 199) rfl rfl
theorem q_2121 : (Cond.instanceMethod ({ cls := "FlatPlanModel", name := "readClosing", desc := "()Z" } : Jvm.MethodName)) ∈ gtbl := gt9 (i := 201) rfl rfl
theorem q_2122 : (Cond.code ({ cls := "FlatPlanModel", name := "readClosing", desc := "()Z" } : Jvm.MethodName) prog_13_method_150_code (1 : Nat) (Option.some FieldType.boolean)) ∈ gtbl := gt9 (i := 202) rfl rfl
theorem q_2123 : (Cond.methodLink "FlatPlanModel" (403 : Nat) ({ cls := "FlatPlanModel", name := "readPlace", desc := "(Z)Z" } : Jvm.MethodName)) ∈ gtbl := gt9 (i := 203) rfl rfl
theorem q_2125 : (Cond.instanceMethod ({ cls := "FlatPlanModel", name := "readPlace", desc := "(Z)Z" } : Jvm.MethodName)) ∈ gtbl := gt9 (i := 205) rfl rfl
theorem q_2126 : (Cond.code ({ cls := "FlatPlanModel", name := "readPlace", desc := "(Z)Z" } : Jvm.MethodName) prog_13_method_151_code (5 : Nat) (Option.some FieldType.boolean)) ∈ gtbl := gt9 (i := 206) rfl rfl
theorem q_2127 : (Cond.arrayClass FieldType.long) ∈ gtbl := gt9 (i := 207) rfl rfl
theorem q_2128 : (Cond.arrayClass FieldType.double) ∈ gtbl := gt9 (i := 208) rfl rfl
theorem q_2131 : (Cond.fieldLink "java/lang/String" (9 : Nat) "java/lang/String" "value" "[B") ∈ gtbl := gt9 (i := 211) rfl rfl
theorem q_2132 : (Cond.fieldLink "java/lang/String" (15 : Nat) "java/lang/String" "coder" "B") ∈ gtbl := gt9 (i := 212) rfl rfl
theorem qs_0 : Cond.selects "FlatPlan$Plan" ⟨"FlatPlan$Plan", "layOut", "()V"⟩ ⟨"FlatPlan$Plan", "layOut", "()V"⟩ ∈ gtbl := gt_sel (i := 0) rfl rfl
theorem qs_1 : Cond.selects "FlatPlan$Reader" ⟨"FlatPlan$Reader", "nextToken", "()V"⟩ ⟨"FlatPlan$Reader", "nextToken", "()V"⟩ ∈ gtbl := gt_sel (i := 1) rfl rfl
theorem qs_2 : Cond.selects "FlatPlan$Reader" ⟨"FlatPlan$Reader", "isWord", "(Ljava/lang/String;)Z"⟩ ⟨"FlatPlan$Reader", "isWord", "(Ljava/lang/String;)Z"⟩ ∈ gtbl := gt_sel (i := 2) rfl rfl
theorem qs_3 : Cond.selects "FlatPlan$Reader" ⟨"FlatPlan$Reader", "readPlan", "()Z"⟩ ⟨"FlatPlan$Reader", "readPlan", "()Z"⟩ ∈ gtbl := gt_sel (i := 3) rfl rfl
theorem qs_4 : Cond.selects "FlatPlan$Reader" ⟨"FlatPlan$Reader", "readNumber", "(III)Z"⟩ ⟨"FlatPlan$Reader", "readNumber", "(III)Z"⟩ ∈ gtbl := gt_sel (i := 4) rfl rfl
theorem qs_5 : Cond.selects "FlatPlan$Reader" ⟨"FlatPlan$Reader", "fail", "(I)Z"⟩ ⟨"FlatPlan$Reader", "fail", "(I)Z"⟩ ∈ gtbl := gt_sel (i := 5) rfl rfl
theorem qs_6 : Cond.selects "FlatPlan$Reader" ⟨"FlatPlan$Reader", "numberRead", "()I"⟩ ⟨"FlatPlan$Reader", "numberRead", "()I"⟩ ∈ gtbl := gt_sel (i := 6) rfl rfl
theorem qs_7 : Cond.selects "FlatPlan$Reader" ⟨"FlatPlan$Reader", "readSemicolon", "()Z"⟩ ⟨"FlatPlan$Reader", "readSemicolon", "()Z"⟩ ∈ gtbl := gt_sel (i := 7) rfl rfl
theorem qs_8 : Cond.selects "FlatPlan$Reader" ⟨"FlatPlan$Reader", "readStatement", "()Z"⟩ ⟨"FlatPlan$Reader", "readStatement", "()Z"⟩ ∈ gtbl := gt_sel (i := 8) rfl rfl
theorem qs_9 : Cond.selects "FlatPlan$Reader" ⟨"FlatPlan$Reader", "readColor", "()Z"⟩ ⟨"FlatPlan$Reader", "readColor", "()Z"⟩ ∈ gtbl := gt_sel (i := 9) rfl rfl
theorem qs_10 : Cond.selects "FlatPlan$Reader" ⟨"FlatPlan$Reader", "readAd", "()Z"⟩ ⟨"FlatPlan$Reader", "readAd", "()Z"⟩ ∈ gtbl := gt_sel (i := 10) rfl rfl
theorem qs_11 : Cond.selects "FlatPlan$Reader" ⟨"FlatPlan$Reader", "firstIsSize", "()Z"⟩ ⟨"FlatPlan$Reader", "firstIsSize", "()Z"⟩ ∈ gtbl := gt_sel (i := 11) rfl rfl
theorem qs_12 : Cond.selects "FlatPlan$Reader" ⟨"FlatPlan$Reader", "readStory", "()Z"⟩ ⟨"FlatPlan$Reader", "readStory", "()Z"⟩ ∈ gtbl := gt_sel (i := 12) rfl rfl
theorem qs_13 : Cond.selects "FlatPlan$Reader" ⟨"FlatPlan$Reader", "readStandby", "()Z"⟩ ⟨"FlatPlan$Reader", "readStandby", "()Z"⟩ ∈ gtbl := gt_sel (i := 13) rfl rfl
theorem qs_14 : Cond.selects "FlatPlan$Reader" ⟨"FlatPlan$Reader", "readClose", "()Z"⟩ ⟨"FlatPlan$Reader", "readClose", "()Z"⟩ ∈ gtbl := gt_sel (i := 14) rfl rfl
theorem qs_15 : Cond.selects "FlatPlan$Reader" ⟨"FlatPlan$Reader", "readPut", "()Z"⟩ ⟨"FlatPlan$Reader", "readPut", "()Z"⟩ ∈ gtbl := gt_sel (i := 15) rfl rfl
theorem qs_16 : Cond.selects "FlatPlan$Plan" ⟨"FlatPlan$Plan", "lacksColor", "(II)Z"⟩ ⟨"FlatPlan$Plan", "lacksColor", "(II)Z"⟩ ∈ gtbl := gt_sel (i := 16) rfl rfl
theorem qs_17 : Cond.selects "FlatPlan$Plan" ⟨"FlatPlan$Plan", "meetsRival", "(II)Z"⟩ ⟨"FlatPlan$Plan", "meetsRival", "(II)Z"⟩ ∈ gtbl := gt_sel (i := 17) rfl rfl
theorem qs_18 : Cond.selects "FlatPlan$Reader" ⟨"FlatPlan$Reader", "readLay", "()Z"⟩ ⟨"FlatPlan$Reader", "readLay", "()Z"⟩ ∈ gtbl := gt_sel (i := 18) rfl rfl
theorem qs_19 : Cond.selects "FlatPlan$Plan" ⟨"FlatPlan$Plan", "pageReason", "(II)I"⟩ ⟨"FlatPlan$Plan", "pageReason", "(II)I"⟩ ∈ gtbl := gt_sel (i := 19) rfl rfl
theorem qs_20 : Cond.selects "FlatPlan$Searches" ⟨"FlatPlan$Searches", "insertAd", "(II)V"⟩ ⟨"FlatPlan$Searches", "insertAd", "(II)V"⟩ ∈ gtbl := gt_sel (i := 20) rfl rfl
theorem qs_21 : Cond.selects "FlatPlan$Searches" ⟨"FlatPlan$Searches", "comesBefore", "(II)Z"⟩ ⟨"FlatPlan$Searches", "comesBefore", "(II)Z"⟩ ∈ gtbl := gt_sel (i := 21) rfl rfl
theorem qs_22 : Cond.selects "FlatPlan$Searches" ⟨"FlatPlan$Searches", "layFirst", "(I)Z"⟩ ⟨"FlatPlan$Searches", "layFirst", "(I)Z"⟩ ∈ gtbl := gt_sel (i := 22) rfl rfl
theorem qs_23 : Cond.selects "FlatPlan$Searches" ⟨"FlatPlan$Searches", "matchOneMore", "(I)Z"⟩ ⟨"FlatPlan$Searches", "matchOneMore", "(I)Z"⟩ ∈ gtbl := gt_sel (i := 23) rfl rfl
theorem qs_24 : Cond.selects "FlatPlan$Searches" ⟨"FlatPlan$Searches", "mayMatch", "(II)Z"⟩ ⟨"FlatPlan$Searches", "mayMatch", "(II)Z"⟩ ∈ gtbl := gt_sel (i := 24) rfl rfl
theorem qs_25 : Cond.selects "FlatPlan$Searches" ⟨"FlatPlan$Searches", "changePartners", "(I)V"⟩ ⟨"FlatPlan$Searches", "changePartners", "(I)V"⟩ ∈ gtbl := gt_sel (i := 25) rfl rfl
theorem qs_26 : Cond.selects "FlatPlan$Searches" ⟨"FlatPlan$Searches", "countColorPages", "()V"⟩ ⟨"FlatPlan$Searches", "countColorPages", "()V"⟩ ∈ gtbl := gt_sel (i := 26) rfl rfl
theorem qs_27 : Cond.selects "FlatPlan$Searches" ⟨"FlatPlan$Searches", "fewerColorForms", "(II)I"⟩ ⟨"FlatPlan$Searches", "fewerColorForms", "(II)I"⟩ ∈ gtbl := gt_sel (i := 27) rfl rfl
theorem qs_28 : Cond.selects "FlatPlan$Plan" ⟨"FlatPlan$Plan", "exchangedReason", "(III)I"⟩ ⟨"FlatPlan$Plan", "exchangedReason", "(III)I"⟩ ∈ gtbl := gt_sel (i := 28) rfl rfl
theorem qs_29 : Cond.selects "FlatPlan$Searches" ⟨"FlatPlan$Searches", "nextLateRank", "(I)I"⟩ ⟨"FlatPlan$Searches", "nextLateRank", "(I)I"⟩ ∈ gtbl := gt_sel (i := 29) rfl rfl
theorem qs_30 : Cond.selects "FlatPlan$Searches" ⟨"FlatPlan$Searches", "adIsOpen", "(I)Z"⟩ ⟨"FlatPlan$Searches", "adIsOpen", "(I)Z"⟩ ∈ gtbl := gt_sel (i := 30) rfl rfl
theorem qs_31 : Cond.selects "FlatPlan$Plan" ⟨"FlatPlan$Plan", "storyIsOnFormThat", "(II)Z"⟩ ⟨"FlatPlan$Plan", "storyIsOnFormThat", "(II)Z"⟩ ∈ gtbl := gt_sel (i := 31) rfl rfl
theorem qs_32 : Cond.selects "java/lang/Throwable" ⟨"java/lang/Throwable", "fillInStackTrace", "(I)Ljava/lang/Throwable;"⟩ ⟨"java/lang/Throwable", "fillInStackTrace", "(I)Ljava/lang/Throwable;"⟩ ∈ gtbl := gt_sel (i := 32) rfl rfl
theorem qs_33 : Cond.selects "FlatPlan" ⟨"FlatPlan", "needAd", "(I)V"⟩ ⟨"FlatPlan", "needAd", "(I)V"⟩ ∈ gtbl := gt_sel (i := 33) rfl rfl
theorem qs_34 : Cond.selects "FlatPlan" ⟨"FlatPlan", "needStory", "(I)V"⟩ ⟨"FlatPlan", "needStory", "(I)V"⟩ ∈ gtbl := gt_sel (i := 34) rfl rfl
theorem qs_35 : Cond.selects "FlatPlan" ⟨"FlatPlan", "needStandby", "(I)V"⟩ ⟨"FlatPlan", "needStandby", "(I)V"⟩ ∈ gtbl := gt_sel (i := 35) rfl rfl
theorem qs_36 : Cond.selects "FlatPlan" ⟨"FlatPlan", "needPage", "(I)V"⟩ ⟨"FlatPlan", "needPage", "(I)V"⟩ ∈ gtbl := gt_sel (i := 36) rfl rfl
theorem qs_37 : Cond.selects "FlatPlan" ⟨"FlatPlan", "needForm", "(I)V"⟩ ⟨"FlatPlan", "needForm", "(I)V"⟩ ∈ gtbl := gt_sel (i := 37) rfl rfl
theorem qs_38 : Cond.selects "FlatPlan$Plan" ⟨"FlatPlan$Plan", "closeForm", "(I)V"⟩ ⟨"FlatPlan$Plan", "closeForm", "(I)V"⟩ ∈ gtbl := gt_sel (i := 38) rfl rfl
theorem qs_39 : Cond.selects "FlatPlan$Plan" ⟨"FlatPlan$Plan", "replaceLateAds", "(I)V"⟩ ⟨"FlatPlan$Plan", "replaceLateAds", "(I)V"⟩ ∈ gtbl := gt_sel (i := 39) rfl rfl
theorem qs_40 : Cond.selects "FlatPlan$Searches" ⟨"FlatPlan$Searches", "rivalPricesBeside", "(II)I"⟩ ⟨"FlatPlan$Searches", "rivalPricesBeside", "(II)I"⟩ ∈ gtbl := gt_sel (i := 40) rfl rfl
theorem qs_41 : Cond.selects "FlatPlan$Searches" ⟨"FlatPlan$Searches", "pricesForRoom", "(II)I"⟩ ⟨"FlatPlan$Searches", "pricesForRoom", "(II)I"⟩ ∈ gtbl := gt_sel (i := 41) rfl rfl
theorem qs_42 : Cond.selects "FlatPlan$Searches" ⟨"FlatPlan$Searches", "removedPrices", "(IIII)I"⟩ ⟨"FlatPlan$Searches", "removedPrices", "(IIII)I"⟩ ∈ gtbl := gt_sel (i := 42) rfl rfl
theorem qs_43 : Cond.selects "FlatPlan$Searches" ⟨"FlatPlan$Searches", "leftOnSet", "(I)I"⟩ ⟨"FlatPlan$Searches", "leftOnSet", "(I)I"⟩ ∈ gtbl := gt_sel (i := 43) rfl rfl
theorem qs_44 : Cond.selects "FlatPlanModel" ⟨"FlatPlanModel", "clearBlock", "(I)V"⟩ ⟨"FlatPlanModel", "clearBlock", "(I)V"⟩ ∈ gtbl := gt_sel (i := 44) rfl rfl
theorem qs_45 : Cond.selects "FlatPlanModel" ⟨"FlatPlanModel", "copyBlock", "(II)V"⟩ ⟨"FlatPlanModel", "copyBlock", "(II)V"⟩ ∈ gtbl := gt_sel (i := 45) rfl rfl
theorem qs_46 : Cond.selects "FlatPlanModel" ⟨"FlatPlanModel", "isAd", "(I)Z"⟩ ⟨"FlatPlanModel", "isAd", "(I)Z"⟩ ∈ gtbl := gt_sel (i := 46) rfl rfl
theorem qs_47 : Cond.selects "FlatPlanModel" ⟨"FlatPlanModel", "throwsIf", "(ZI)Z"⟩ ⟨"FlatPlanModel", "throwsIf", "(ZI)Z"⟩ ∈ gtbl := gt_sel (i := 47) rfl rfl
theorem qs_48 : Cond.selects "FlatPlanModel" ⟨"FlatPlanModel", "reasonOf", "(II)I"⟩ ⟨"FlatPlanModel", "reasonOf", "(II)I"⟩ ∈ gtbl := gt_sel (i := 48) rfl rfl
theorem qs_49 : Cond.selects "FlatPlanModel" ⟨"FlatPlanModel", "isPage", "(I)Z"⟩ ⟨"FlatPlanModel", "isPage", "(I)Z"⟩ ∈ gtbl := gt_sel (i := 49) rfl rfl
theorem qs_50 : Cond.selects "FlatPlanModel" ⟨"FlatPlanModel", "pageMany", "()I"⟩ ⟨"FlatPlanModel", "pageMany", "()I"⟩ ∈ gtbl := gt_sel (i := 50) rfl rfl
theorem qs_51 : Cond.selects "FlatPlanModel" ⟨"FlatPlanModel", "isPrinted", "(I)Z"⟩ ⟨"FlatPlanModel", "isPrinted", "(I)Z"⟩ ∈ gtbl := gt_sel (i := 51) rfl rfl
theorem qs_52 : Cond.selects "FlatPlanModel" ⟨"FlatPlanModel", "formOf", "(I)I"⟩ ⟨"FlatPlanModel", "formOf", "(I)I"⟩ ∈ gtbl := gt_sel (i := 52) rfl rfl
theorem qs_53 : Cond.selects "FlatPlanModel" ⟨"FlatPlanModel", "ofForm", "(II)I"⟩ ⟨"FlatPlanModel", "ofForm", "(II)I"⟩ ∈ gtbl := gt_sel (i := 53) rfl rfl
theorem qs_54 : Cond.selects "FlatPlanModel" ⟨"FlatPlanModel", "leftOn", "(III)I"⟩ ⟨"FlatPlanModel", "leftOn", "(III)I"⟩ ∈ gtbl := gt_sel (i := 54) rfl rfl
theorem qs_55 : Cond.selects "FlatPlanModel" ⟨"FlatPlanModel", "storyOn", "(II)I"⟩ ⟨"FlatPlanModel", "storyOn", "(II)I"⟩ ∈ gtbl := gt_sel (i := 55) rfl rfl
theorem qs_56 : Cond.selects "FlatPlanModel" ⟨"FlatPlanModel", "covers", "(II)Z"⟩ ⟨"FlatPlanModel", "covers", "(II)Z"⟩ ∈ gtbl := gt_sel (i := 56) rfl rfl
theorem qs_57 : Cond.selects "FlatPlanModel" ⟨"FlatPlanModel", "ofStory", "(II)I"⟩ ⟨"FlatPlanModel", "ofStory", "(II)I"⟩ ∈ gtbl := gt_sel (i := 57) rfl rfl
theorem qs_58 : Cond.selects "FlatPlanModel" ⟨"FlatPlanModel", "roomOn", "(III)I"⟩ ⟨"FlatPlanModel", "roomOn", "(III)I"⟩ ∈ gtbl := gt_sel (i := 58) rfl rfl
theorem qs_59 : Cond.selects "FlatPlanModel" ⟨"FlatPlanModel", "ofAd", "(II)I"⟩ ⟨"FlatPlanModel", "ofAd", "(II)I"⟩ ∈ gtbl := gt_sel (i := 59) rfl rfl
theorem qs_60 : Cond.selects "FlatPlanModel" ⟨"FlatPlanModel", "ofStandby", "(II)I"⟩ ⟨"FlatPlanModel", "ofStandby", "(II)I"⟩ ∈ gtbl := gt_sel (i := 60) rfl rfl
theorem qs_61 : Cond.selects "FlatPlanModel" ⟨"FlatPlanModel", "hasColor", "(I)Z"⟩ ⟨"FlatPlanModel", "hasColor", "(I)Z"⟩ ∈ gtbl := gt_sel (i := 61) rfl rfl
theorem qs_62 : Cond.selects "FlatPlanModel" ⟨"FlatPlanModel", "hasRival", "(II)Z"⟩ ⟨"FlatPlanModel", "hasRival", "(II)Z"⟩ ∈ gtbl := gt_sel (i := 62) rfl rfl
theorem qs_63 : Cond.selects "FlatPlanModel" ⟨"FlatPlanModel", "isStory", "(I)Z"⟩ ⟨"FlatPlanModel", "isStory", "(I)Z"⟩ ∈ gtbl := gt_sel (i := 63) rfl rfl
theorem qs_64 : Cond.selects "FlatPlanModel" ⟨"FlatPlanModel", "storyReasonOf", "(II)I"⟩ ⟨"FlatPlanModel", "storyReasonOf", "(II)I"⟩ ∈ gtbl := gt_sel (i := 64) rfl rfl
theorem qs_65 : Cond.selects "FlatPlanModel" ⟨"FlatPlanModel", "formMany", "()I"⟩ ⟨"FlatPlanModel", "formMany", "()I"⟩ ∈ gtbl := gt_sel (i := 65) rfl rfl
theorem qs_66 : Cond.selects "FlatPlanModel" ⟨"FlatPlanModel", "placedAds", "()I"⟩ ⟨"FlatPlanModel", "placedAds", "()I"⟩ ∈ gtbl := gt_sel (i := 66) rfl rfl
theorem qs_67 : Cond.selects "FlatPlanModel" ⟨"FlatPlanModel", "placedStories", "()I"⟩ ⟨"FlatPlanModel", "placedStories", "()I"⟩ ∈ gtbl := gt_sel (i := 67) rfl rfl
theorem qs_68 : Cond.selects "FlatPlanModel" ⟨"FlatPlanModel", "usedStandbys", "()I"⟩ ⟨"FlatPlanModel", "usedStandbys", "()I"⟩ ∈ gtbl := gt_sel (i := 68) rfl rfl
theorem qs_69 : Cond.selects "FlatPlanModel" ⟨"FlatPlanModel", "formsWith", "(I)I"⟩ ⟨"FlatPlanModel", "formsWith", "(I)I"⟩ ∈ gtbl := gt_sel (i := 69) rfl rfl
theorem qs_70 : Cond.selects "FlatPlanModel" ⟨"FlatPlanModel", "record", "()V"⟩ ⟨"FlatPlanModel", "record", "()V"⟩ ∈ gtbl := gt_sel (i := 70) rfl rfl
theorem qs_71 : Cond.selects "FlatPlanModel" ⟨"FlatPlanModel", "setOfAd", "(III)V"⟩ ⟨"FlatPlanModel", "setOfAd", "(III)V"⟩ ∈ gtbl := gt_sel (i := 71) rfl rfl
theorem qs_72 : Cond.selects "FlatPlanModel" ⟨"FlatPlanModel", "isAdLate", "(I)Z"⟩ ⟨"FlatPlanModel", "isAdLate", "(I)Z"⟩ ∈ gtbl := gt_sel (i := 72) rfl rfl
theorem qs_73 : Cond.selects "FlatPlanModel" ⟨"FlatPlanModel", "isStoryLate", "(I)Z"⟩ ⟨"FlatPlanModel", "isStoryLate", "(I)Z"⟩ ∈ gtbl := gt_sel (i := 73) rfl rfl
theorem qs_74 : Cond.selects "FlatPlanModel" ⟨"FlatPlanModel", "isStandby", "(I)Z"⟩ ⟨"FlatPlanModel", "isStandby", "(I)Z"⟩ ∈ gtbl := gt_sel (i := 74) rfl rfl
theorem qs_75 : Cond.selects "FlatPlanModel" ⟨"FlatPlanModel", "left", "(I)I"⟩ ⟨"FlatPlanModel", "left", "(I)I"⟩ ∈ gtbl := gt_sel (i := 75) rfl rfl
theorem qs_76 : Cond.selects "FlatPlanModel" ⟨"FlatPlanModel", "adsOn", "(I)I"⟩ ⟨"FlatPlanModel", "adsOn", "(I)I"⟩ ∈ gtbl := gt_sel (i := 76) rfl rfl
theorem qs_77 : Cond.selects "FlatPlanModel" ⟨"FlatPlanModel", "standbysOn", "(I)I"⟩ ⟨"FlatPlanModel", "standbysOn", "(I)I"⟩ ∈ gtbl := gt_sel (i := 77) rfl rfl
theorem qs_78 : Cond.selects "FlatPlanModel" ⟨"FlatPlanModel", "isForm", "(I)Z"⟩ ⟨"FlatPlanModel", "isForm", "(I)Z"⟩ ∈ gtbl := gt_sel (i := 78) rfl rfl
theorem qs_79 : Cond.selects "FlatPlanModel" ⟨"FlatPlanModel", "leftOnForm", "(I)I"⟩ ⟨"FlatPlanModel", "leftOnForm", "(I)I"⟩ ∈ gtbl := gt_sel (i := 79) rfl rfl
theorem qs_80 : Cond.selects "FlatPlanModel" ⟨"FlatPlanModel", "adsOnForm", "(I)I"⟩ ⟨"FlatPlanModel", "adsOnForm", "(I)I"⟩ ∈ gtbl := gt_sel (i := 80) rfl rfl
theorem qs_81 : Cond.selects "FlatPlanModel" ⟨"FlatPlanModel", "isAdOnForm", "(II)Z"⟩ ⟨"FlatPlanModel", "isAdOnForm", "(II)Z"⟩ ∈ gtbl := gt_sel (i := 81) rfl rfl
theorem qs_82 : Cond.selects "FlatPlanModel" ⟨"FlatPlanModel", "lateOnForm", "(I)I"⟩ ⟨"FlatPlanModel", "lateOnForm", "(I)I"⟩ ∈ gtbl := gt_sel (i := 82) rfl rfl
theorem qs_83 : Cond.selects "FlatPlanModel" ⟨"FlatPlanModel", "hasPageOn", "(II)Z"⟩ ⟨"FlatPlanModel", "hasPageOn", "(II)Z"⟩ ∈ gtbl := gt_sel (i := 83) rfl rfl
theorem qs_84 : Cond.selects "FlatPlanModel" ⟨"FlatPlanModel", "hasColored", "(I)Z"⟩ ⟨"FlatPlanModel", "hasColored", "(I)Z"⟩ ∈ gtbl := gt_sel (i := 84) rfl rfl
theorem qs_85 : Cond.selects "FlatPlanModel" ⟨"FlatPlanModel", "isStoryPrinted", "(I)Z"⟩ ⟨"FlatPlanModel", "isStoryPrinted", "(I)Z"⟩ ∈ gtbl := gt_sel (i := 85) rfl rfl
theorem qs_86 : Cond.selects "FlatPlanModel" ⟨"FlatPlanModel", "setStandby", "(II)V"⟩ ⟨"FlatPlanModel", "setStandby", "(II)V"⟩ ∈ gtbl := gt_sel (i := 86) rfl rfl
theorem qs_87 : Cond.selects "FlatPlanModel" ⟨"FlatPlanModel", "exchangeReason", "(II)I"⟩ ⟨"FlatPlanModel", "exchangeReason", "(II)I"⟩ ∈ gtbl := gt_sel (i := 87) rfl rfl
theorem qs_88 : Cond.selects "FlatPlanModel" ⟨"FlatPlanModel", "swapPages", "(II)V"⟩ ⟨"FlatPlanModel", "swapPages", "(II)V"⟩ ∈ gtbl := gt_sel (i := 88) rfl rfl
theorem qs_89 : Cond.selects "FlatPlanModel" ⟨"FlatPlanModel", "flawOn", "(II)I"⟩ ⟨"FlatPlanModel", "flawOn", "(II)I"⟩ ∈ gtbl := gt_sel (i := 89) rfl rfl
theorem qs_90 : Cond.selects "FlatPlanModel" ⟨"FlatPlanModel", "setForm", "(III)V"⟩ ⟨"FlatPlanModel", "setForm", "(III)V"⟩ ∈ gtbl := gt_sel (i := 90) rfl rfl
theorem qs_91 : Cond.selects "FlatPlanModel" ⟨"FlatPlanModel", "close", "(I)V"⟩ ⟨"FlatPlanModel", "close", "(I)V"⟩ ∈ gtbl := gt_sel (i := 91) rfl rfl
theorem qs_92 : Cond.selects "FlatPlanModel" ⟨"FlatPlanModel", "freeStandby", "(I)I"⟩ ⟨"FlatPlanModel", "freeStandby", "(I)I"⟩ ∈ gtbl := gt_sel (i := 92) rfl rfl
theorem qs_93 : Cond.selects "FlatPlanModel" ⟨"FlatPlanModel", "hour", "()I"⟩ ⟨"FlatPlanModel", "hour", "()I"⟩ ∈ gtbl := gt_sel (i := 93) rfl rfl
theorem qs_94 : Cond.selects "FlatPlanModel" ⟨"FlatPlanModel", "nextForm", "()I"⟩ ⟨"FlatPlanModel", "nextForm", "()I"⟩ ∈ gtbl := gt_sel (i := 94) rfl rfl
theorem qs_95 : Cond.selects "FlatPlanModel" ⟨"FlatPlanModel", "isAhead", "(II)Z"⟩ ⟨"FlatPlanModel", "isAhead", "(II)Z"⟩ ∈ gtbl := gt_sel (i := 95) rfl rfl
theorem qs_96 : Cond.selects "FlatPlanModel" ⟨"FlatPlanModel", "firstOf", "(II)I"⟩ ⟨"FlatPlanModel", "firstOf", "(II)I"⟩ ∈ gtbl := gt_sel (i := 96) rfl rfl
theorem qs_97 : Cond.selects "FlatPlanModel" ⟨"FlatPlanModel", "choicesOf", "(I)I"⟩ ⟨"FlatPlanModel", "choicesOf", "(I)I"⟩ ∈ gtbl := gt_sel (i := 97) rfl rfl
theorem qs_98 : Cond.selects "FlatPlanModel" ⟨"FlatPlanModel", "evictionOf", "(II)I"⟩ ⟨"FlatPlanModel", "evictionOf", "(II)I"⟩ ∈ gtbl := gt_sel (i := 98) rfl rfl
theorem qs_99 : Cond.selects "FlatPlanModel" ⟨"FlatPlanModel", "leastOf", "(II)I"⟩ ⟨"FlatPlanModel", "leastOf", "(II)I"⟩ ∈ gtbl := gt_sel (i := 99) rfl rfl
theorem qs_100 : Cond.selects "FlatPlanModel" ⟨"FlatPlanModel", "joins", "(I)Z"⟩ ⟨"FlatPlanModel", "joins", "(I)Z"⟩ ∈ gtbl := gt_sel (i := 100) rfl rfl
theorem qs_101 : Cond.selects "FlatPlanModel" ⟨"FlatPlanModel", "givesBack", "(II)V"⟩ ⟨"FlatPlanModel", "givesBack", "(II)V"⟩ ∈ gtbl := gt_sel (i := 101) rfl rfl
theorem qs_102 : Cond.selects "FlatPlanModel" ⟨"FlatPlanModel", "ofGroupOn", "(II)I"⟩ ⟨"FlatPlanModel", "ofGroupOn", "(II)I"⟩ ∈ gtbl := gt_sel (i := 102) rfl rfl
theorem qs_103 : Cond.selects "FlatPlanModel" ⟨"FlatPlanModel", "revenueBy", "(I)I"⟩ ⟨"FlatPlanModel", "revenueBy", "(I)I"⟩ ∈ gtbl := gt_sel (i := 103) rfl rfl
theorem qs_104 : Cond.selects "FlatPlanModel" ⟨"FlatPlanModel", "isLateItem", "(I)Z"⟩ ⟨"FlatPlanModel", "isLateItem", "(I)Z"⟩ ∈ gtbl := gt_sel (i := 104) rfl rfl
theorem qs_105 : Cond.selects "FlatPlanModel" ⟨"FlatPlanModel", "isItem", "(I)Z"⟩ ⟨"FlatPlanModel", "isItem", "(I)Z"⟩ ∈ gtbl := gt_sel (i := 105) rfl rfl
theorem qs_106 : Cond.selects "FlatPlanModel" ⟨"FlatPlanModel", "readyOf", "(I)I"⟩ ⟨"FlatPlanModel", "readyOf", "(I)I"⟩ ∈ gtbl := gt_sel (i := 106) rfl rfl
theorem qs_107 : Cond.selects "FlatPlanModel" ⟨"FlatPlanModel", "isOnOpenForm", "(I)Z"⟩ ⟨"FlatPlanModel", "isOnOpenForm", "(I)Z"⟩ ∈ gtbl := gt_sel (i := 107) rfl rfl
theorem qs_108 : Cond.selects "FlatPlanModel" ⟨"FlatPlanModel", "coloredForms", "()I"⟩ ⟨"FlatPlanModel", "coloredForms", "()I"⟩ ∈ gtbl := gt_sel (i := 108) rfl rfl
theorem qs_109 : Cond.selects "FlatPlanModel" ⟨"FlatPlanModel", "writeItem", "(II)V"⟩ ⟨"FlatPlanModel", "writeItem", "(II)V"⟩ ∈ gtbl := gt_sel (i := 109) rfl rfl
theorem qs_110 : Cond.selects "FlatPlanModel" ⟨"FlatPlanModel", "write", "(I)V"⟩ ⟨"FlatPlanModel", "write", "(I)V"⟩ ∈ gtbl := gt_sel (i := 110) rfl rfl
theorem qs_111 : Cond.selects "FlatPlanModel" ⟨"FlatPlanModel", "appendBytes", "(I)V"⟩ ⟨"FlatPlanModel", "appendBytes", "(I)V"⟩ ∈ gtbl := gt_sel (i := 111) rfl rfl
theorem qs_112 : Cond.selects "FlatPlanModel" ⟨"FlatPlanModel", "advance", "()V"⟩ ⟨"FlatPlanModel", "advance", "()V"⟩ ∈ gtbl := gt_sel (i := 112) rfl rfl
theorem qs_113 : Cond.selects "FlatPlanModel" ⟨"FlatPlanModel", "byteAt", "(I)I"⟩ ⟨"FlatPlanModel", "byteAt", "(I)I"⟩ ∈ gtbl := gt_sel (i := 113) rfl rfl
theorem qs_114 : Cond.selects "FlatPlanModel" ⟨"FlatPlanModel", "isWord", "(J)Z"⟩ ⟨"FlatPlanModel", "isWord", "(J)Z"⟩ ∈ gtbl := gt_sel (i := 114) rfl rfl
theorem qs_115 : Cond.selects "FlatPlanModel" ⟨"FlatPlanModel", "readPlan", "()Z"⟩ ⟨"FlatPlanModel", "readPlan", "()Z"⟩ ∈ gtbl := gt_sel (i := 115) rfl rfl
theorem qs_116 : Cond.selects "FlatPlanModel" ⟨"FlatPlanModel", "readNumber", "(II)Z"⟩ ⟨"FlatPlanModel", "readNumber", "(II)Z"⟩ ∈ gtbl := gt_sel (i := 116) rfl rfl
theorem qs_117 : Cond.selects "FlatPlanModel" ⟨"FlatPlanModel", "fail", "(I)Z"⟩ ⟨"FlatPlanModel", "fail", "(I)Z"⟩ ∈ gtbl := gt_sel (i := 117) rfl rfl
theorem qs_118 : Cond.selects "FlatPlanModel" ⟨"FlatPlanModel", "readEnd", "()Z"⟩ ⟨"FlatPlanModel", "readEnd", "()Z"⟩ ∈ gtbl := gt_sel (i := 118) rfl rfl
theorem qs_119 : Cond.selects "FlatPlanModel" ⟨"FlatPlanModel", "readStatement", "()Z"⟩ ⟨"FlatPlanModel", "readStatement", "()Z"⟩ ∈ gtbl := gt_sel (i := 119) rfl rfl
theorem qs_120 : Cond.selects "FlatPlanModel" ⟨"FlatPlanModel", "readColor", "()Z"⟩ ⟨"FlatPlanModel", "readColor", "()Z"⟩ ∈ gtbl := gt_sel (i := 120) rfl rfl
theorem qs_121 : Cond.selects "FlatPlanModel" ⟨"FlatPlanModel", "readAd", "()Z"⟩ ⟨"FlatPlanModel", "readAd", "()Z"⟩ ∈ gtbl := gt_sel (i := 121) rfl rfl
theorem qs_122 : Cond.selects "FlatPlanModel" ⟨"FlatPlanModel", "readSize", "(I)Z"⟩ ⟨"FlatPlanModel", "readSize", "(I)Z"⟩ ∈ gtbl := gt_sel (i := 122) rfl rfl
theorem qs_123 : Cond.selects "FlatPlanModel" ⟨"FlatPlanModel", "readInto", "(III)Z"⟩ ⟨"FlatPlanModel", "readInto", "(III)Z"⟩ ∈ gtbl := gt_sel (i := 123) rfl rfl
theorem qs_124 : Cond.selects "FlatPlanModel" ⟨"FlatPlanModel", "readStory", "()Z"⟩ ⟨"FlatPlanModel", "readStory", "()Z"⟩ ∈ gtbl := gt_sel (i := 124) rfl rfl
theorem qs_125 : Cond.selects "FlatPlanModel" ⟨"FlatPlanModel", "readStandby", "()Z"⟩ ⟨"FlatPlanModel", "readStandby", "()Z"⟩ ∈ gtbl := gt_sel (i := 125) rfl rfl
theorem qs_126 : Cond.selects "FlatPlanModel" ⟨"FlatPlanModel", "readClosing", "()Z"⟩ ⟨"FlatPlanModel", "readClosing", "()Z"⟩ ∈ gtbl := gt_sel (i := 126) rfl rfl
theorem qs_127 : Cond.selects "FlatPlanModel" ⟨"FlatPlanModel", "readPlace", "(Z)Z"⟩ ⟨"FlatPlanModel", "readPlace", "(Z)Z"⟩ ∈ gtbl := gt_sel (i := 127) rfl rfl
