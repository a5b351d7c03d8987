/-! WORDS of the tables that the walk uses, by their places -/
def gtbl : List Cond := lw_tbl.filter goodWord
theorem gt_sel {i : Nat} {w : Cond} (h : (k2_sels lw_privs)[i]? = some w) (g : goodWord w = true) : w ∈ gtbl := List.mem_filter.mpr ⟨List.mem_append_left _ (List.mem_of_getElem? h), g⟩
theorem tb_in {i : Nat} {w : Cond} (h : tables_1[i]? = some w) : w ∈ lw_tbl := List.mem_append_right _ (List.mem_of_getElem? h)
theorem gt_good : ∀ w ∈ gtbl, goodWord w = true := fun _ h => (List.mem_filter.mp h).2
theorem tb1 {i : Nat} {w : Cond} (h : tables_1_1[i]? = some w) : w ∈ lw_tbl := List.mem_append_right _ (List.mem_append_left _ (List.mem_of_getElem? h))
theorem gt1 {i : Nat} {w : Cond} (h : tables_1_1[i]? = some w) (g : goodWord w = true) : w ∈ gtbl := List.mem_filter.mpr ⟨tb1 h, g⟩
theorem tb2 {i : Nat} {w : Cond} (h : tables_1_2[i]? = some w) : w ∈ lw_tbl := List.mem_append_right _ (List.mem_append_right _ (List.mem_append_left _ (List.mem_of_getElem? h)))
theorem gt2 {i : Nat} {w : Cond} (h : tables_1_2[i]? = some w) (g : goodWord w = true) : w ∈ gtbl := List.mem_filter.mpr ⟨tb2 h, g⟩
theorem tb3 {i : Nat} {w : Cond} (h : tables_1_3[i]? = some w) : w ∈ lw_tbl := List.mem_append_right _ (List.mem_append_right _ (List.mem_append_right _ (List.mem_append_left _ (List.mem_of_getElem? h))))
theorem gt3 {i : Nat} {w : Cond} (h : tables_1_3[i]? = some w) (g : goodWord w = true) : w ∈ gtbl := List.mem_filter.mpr ⟨tb3 h, g⟩
theorem tb4 {i : Nat} {w : Cond} (h : tables_1_4[i]? = some w) : w ∈ lw_tbl := List.mem_append_right _ (List.mem_append_right _ (List.mem_append_right _ (List.mem_append_right _ (List.mem_append_left _ (List.mem_of_getElem? h)))))
theorem gt4 {i : Nat} {w : Cond} (h : tables_1_4[i]? = some w) (g : goodWord w = true) : w ∈ gtbl := List.mem_filter.mpr ⟨tb4 h, g⟩
theorem tb5 {i : Nat} {w : Cond} (h : tables_1_5[i]? = some w) : w ∈ lw_tbl := List.mem_append_right _ (List.mem_append_right _ (List.mem_append_right _ (List.mem_append_right _ (List.mem_append_right _ (List.mem_append_left _ (List.mem_of_getElem? h))))))
theorem gt5 {i : Nat} {w : Cond} (h : tables_1_5[i]? = some w) (g : goodWord w = true) : w ∈ gtbl := List.mem_filter.mpr ⟨tb5 h, g⟩
theorem tb6 {i : Nat} {w : Cond} (h : tables_1_6[i]? = some w) : w ∈ lw_tbl := List.mem_append_right _ (List.mem_append_right _ (List.mem_append_right _ (List.mem_append_right _ (List.mem_append_right _ (List.mem_append_right _ (List.mem_append_left _ (List.mem_of_getElem? h)))))))
theorem gt6 {i : Nat} {w : Cond} (h : tables_1_6[i]? = some w) (g : goodWord w = true) : w ∈ gtbl := List.mem_filter.mpr ⟨tb6 h, g⟩
theorem tb7 {i : Nat} {w : Cond} (h : tables_1_7[i]? = some w) : w ∈ lw_tbl := List.mem_append_right _ (List.mem_append_right _ (List.mem_append_right _ (List.mem_append_right _ (List.mem_append_right _ (List.mem_append_right _ (List.mem_append_right _ (List.mem_append_left _ (List.mem_of_getElem? h))))))))
theorem gt7 {i : Nat} {w : Cond} (h : tables_1_7[i]? = some w) (g : goodWord w = true) : w ∈ gtbl := List.mem_filter.mpr ⟨tb7 h, g⟩
theorem tb8 {i : Nat} {w : Cond} (h : tables_1_8[i]? = some w) : w ∈ lw_tbl := List.mem_append_right _ (List.mem_append_right _ (List.mem_append_right _ (List.mem_append_right _ (List.mem_append_right _ (List.mem_append_right _ (List.mem_append_right _ (List.mem_append_right _ (List.mem_append_left _ (List.mem_of_getElem? h)))))))))
theorem gt8 {i : Nat} {w : Cond} (h : tables_1_8[i]? = some w) (g : goodWord w = true) : w ∈ gtbl := List.mem_filter.mpr ⟨tb8 h, g⟩
theorem tb9 {i : Nat} {w : Cond} (h : tables_1_9[i]? = some w) : w ∈ lw_tbl := List.mem_append_right _ (List.mem_append_right _ (List.mem_append_right _ (List.mem_append_right _ (List.mem_append_right _ (List.mem_append_right _ (List.mem_append_right _ (List.mem_append_right _ (List.mem_append_right _ (List.mem_of_getElem? h)))))))))
theorem gt9 {i : Nat} {w : Cond} (h : tables_1_9[i]? = some w) (g : goodWord w = true) : w ∈ gtbl := List.mem_filter.mpr ⟨tb9 h, g⟩
theorem q_0 : (Cond.initialized "FlatPlanLaw") ∈ gtbl := gt1 (i := 0) rfl rfl
theorem q_1 : (Cond.initialized "FlatPlan") ∈ gtbl := gt1 (i := 1) rfl rfl
theorem q_2 : (Cond.initialized "FlatPlan$Reader") ∈ gtbl := gt1 (i := 2) rfl rfl
theorem q_3 : (Cond.initialized "FlatPlan$Bytes") ∈ gtbl := gt1 (i := 3) rfl rfl
theorem q_4 : (Cond.initialized "FlatPlan$Plan") ∈ gtbl := gt1 (i := 4) rfl rfl
theorem q_5 : (Cond.initialized "FlatPlan$State") ∈ gtbl := gt1 (i := 5) rfl rfl
theorem q_6 : (Cond.initialized "FlatPlan$Ads") ∈ gtbl := gt1 (i := 6) rfl rfl
theorem q_7 : (Cond.initialized "FlatPlan$Stories") ∈ gtbl := gt1 (i := 7) rfl rfl
theorem q_8 : (Cond.initialized "FlatPlan$Standbys") ∈ gtbl := gt1 (i := 8) rfl rfl
theorem q_9 : (Cond.initialized "FlatPlan$Forms") ∈ gtbl := gt1 (i := 9) rfl rfl
theorem q_10 : (Cond.initialized "java/util/Arrays") ∈ gtbl := gt1 (i := 10) rfl rfl
theorem q_11 : (Cond.initialized "java/lang/Math") ∈ gtbl := gt1 (i := 11) rfl rfl
theorem q_12 : (Cond.initialized "FlatPlan$Searches") ∈ gtbl := gt1 (i := 12) rfl rfl
theorem q_13 : (Cond.initialized "FlatPlan$History") ∈ gtbl := gt1 (i := 13) rfl rfl
theorem q_14 : (Cond.initialized "FlatPlanLaw$Plan") ∈ gtbl := gt1 (i := 14) rfl rfl
theorem q_15 : (Cond.initialized "java/util/AbstractCollection") ∈ gtbl := gt1 (i := 15) rfl rfl
theorem q_16 : (Cond.initialized "java/util/AbstractList") ∈ gtbl := gt1 (i := 16) rfl rfl
theorem q_17 : (Cond.initialized "java/util/ArrayList") ∈ gtbl := gt1 (i := 17) rfl rfl
theorem q_18 : (Cond.initialized "java/util/Objects") ∈ gtbl := gt1 (i := 18) rfl rfl
theorem q_19 : (Cond.initialized "jdk/internal/util/Preconditions") ∈ gtbl := gt1 (i := 19) rfl rfl
theorem q_20 : (Cond.initialized "java/lang/Throwable") ∈ gtbl := gt1 (i := 20) rfl rfl
theorem q_21 : (Cond.initialized "java/lang/Exception") ∈ gtbl := gt1 (i := 21) rfl rfl
theorem q_22 : (Cond.initialized "java/lang/RuntimeException") ∈ gtbl := gt1 (i := 22) rfl rfl
theorem q_23 : (Cond.initialized "java/lang/IndexOutOfBoundsException") ∈ gtbl := gt1 (i := 23) rfl rfl
theorem q_24 : (Cond.initialized "java/lang/ArrayIndexOutOfBoundsException") ∈ gtbl := gt1 (i := 24) rfl rfl
theorem q_25 : (Cond.initialized "java/lang/String") ∈ gtbl := gt1 (i := 25) rfl rfl
theorem q_26 : (Cond.initialized "java/lang/ArithmeticException") ∈ gtbl := gt1 (i := 26) rfl rfl
theorem q_27 : (Cond.initialized "java/lang/Number") ∈ gtbl := gt1 (i := 27) rfl rfl
theorem q_28 : (Cond.initialized "java/lang/Integer") ∈ gtbl := gt1 (i := 28) rfl rfl
theorem q_29 : (Cond.initialized "java/lang/Integer$IntegerCache") ∈ gtbl := gt1 (i := 29) rfl rfl
theorem q_30 : (Cond.initialized "jdk/internal/util/ArraysSupport") ∈ gtbl := gt1 (i := 30) rfl rfl
theorem q_31 : (Cond.initialized "java/lang/System") ∈ gtbl := gt1 (i := 31) rfl rfl
theorem q_32 : (Cond.initialized "java/lang/AbstractStringBuilder") ∈ gtbl := gt1 (i := 32) rfl rfl
theorem q_33 : (Cond.initialized "java/lang/StringBuilder") ∈ gtbl := gt1 (i := 33) rfl rfl
theorem q_34 : (Cond.initialized "java/lang/StringUTF16") ∈ gtbl := gt1 (i := 34) rfl rfl
theorem q_35 : (Cond.initialized "java/lang/StringLatin1") ∈ gtbl := gt1 (i := 35) rfl rfl
theorem q_36 : (Cond.initialized "java/util/ArrayList$Itr") ∈ gtbl := gt1 (i := 36) rfl rfl
theorem q_37 : (Cond.initialized "java/lang/IllegalArgumentException") ∈ gtbl := gt1 (i := 37) rfl rfl
theorem q_38 : (Cond.initialized "FlatPlanLaw$Item") ∈ gtbl := gt1 (i := 38) rfl rfl
theorem q_39 : (Cond.classLink "FlatPlanLaw" (9 : Nat) "FlatPlan") ∈ gtbl := gt1 (i := 39) rfl rfl
theorem q_40 : (Cond.instantiable "FlatPlan" (6 : Nat)) ∈ gtbl := gt1 (i := 40) rfl rfl
theorem q_41 : (Cond.methodLink "FlatPlanLaw" (457 : Nat) ({ cls := "FlatPlan", name := "<init>", desc := "()V" } : Jvm.MethodName)) ∈ gtbl := gt1 (i := 41) rfl rfl
theorem q_42 : (Cond.instanceMethod ({ cls := "FlatPlan", name := "<init>", desc := "()V" } : Jvm.MethodName)) ∈ gtbl := gt1 (i := 42) rfl rfl
theorem q_43 : (Cond.code ({ cls := "FlatPlan", name := "<init>", desc := "()V" } : Jvm.MethodName) prog_1_method_1_code (1 : Nat) (Option.none : Option FieldType)) ∈ gtbl := gt1 (i := 43) rfl rfl
theorem q_44 : (Cond.methodLink "FlatPlan" (1 : Nat) ({ cls := "java/lang/Object", name := "<init>", desc := "()V" } : Jvm.MethodName)) ∈ gtbl := gt1 (i := 44) rfl rfl
theorem q_45 : (Cond.instanceMethod ({ cls := "java/lang/Object", name := "<init>", desc := "()V" } : Jvm.MethodName)) ∈ gtbl := gt1 (i := 45) rfl rfl
theorem q_46 : (Cond.code ({ cls := "java/lang/Object", name := "<init>", desc := "()V" } : Jvm.MethodName) object_method_1_code (1 : Nat) (Option.none : Option FieldType)) ∈ gtbl := gt1 (i := 46) rfl rfl
theorem q_47 : (Cond.classLink "FlatPlan" (7 : Nat) "FlatPlan$Reader") ∈ gtbl := gt1 (i := 47) rfl rfl
theorem q_48 : (Cond.instantiable "FlatPlan$Reader" (8 : Nat)) ∈ gtbl := gt1 (i := 48) rfl rfl
theorem q_50 : (Cond.instanceMethod ({ cls := "FlatPlan$Reader", name := "<init>", desc := "()V" } : Jvm.MethodName)) ∈ gtbl := gt1 (i := 50) rfl rfl
theorem q_51 : (Cond.code ({ cls := "FlatPlan$Reader", name := "<init>", desc := "()V" } : Jvm.MethodName) prog_7_method_1_code (1 : Nat) (Option.none : Option FieldType)) ∈ gtbl := gt1 (i := 51) rfl rfl
theorem q_52 : (Cond.methodLink "FlatPlan$Reader" (3 : Nat) ({ cls := "java/lang/Object", name := "<init>", desc := "()V" } : Jvm.MethodName)) ∈ gtbl := gt1 (i := 52) rfl rfl
theorem q_53 : (Cond.classLink "FlatPlan$Reader" (9 : Nat) "FlatPlan$Bytes") ∈ gtbl := gt1 (i := 53) rfl rfl
theorem q_54 : (Cond.instantiable "FlatPlan$Bytes" (2 : Nat)) ∈ gtbl := gt1 (i := 54) rfl rfl
theorem q_55 : (Cond.methodLink "FlatPlan$Reader" (11 : Nat) ({ cls := "FlatPlan$Bytes", name := "<init>", desc := "(I)V" } : Jvm.MethodName)) ∈ gtbl := gt1 (i := 55) rfl rfl
theorem q_56 : (Cond.instanceMethod ({ cls := "FlatPlan$Bytes", name := "<init>", desc := "(I)V" } : Jvm.MethodName)) ∈ gtbl := gt1 (i := 56) rfl rfl
theorem q_57 : (Cond.code ({ cls := "FlatPlan$Bytes", name := "<init>", desc := "(I)V" } : Jvm.MethodName) prog_3_method_1_code (2 : Nat) (Option.none : Option FieldType)) ∈ gtbl := gt1 (i := 57) rfl rfl
theorem q_58 : (Cond.methodLink "FlatPlan$Bytes" (3 : Nat) ({ cls := "java/lang/Object", name := "<init>", desc := "()V" } : Jvm.MethodName)) ∈ gtbl := gt1 (i := 58) rfl rfl
theorem q_59 : (Cond.fieldLink "FlatPlan$Bytes" (9 : Nat) "FlatPlan$Bytes" "row" "[I") ∈ gtbl := gt1 (i := 59) rfl rfl
theorem q_60 : (Cond.fieldLink "FlatPlan$Bytes" (15 : Nat) "FlatPlan$Bytes" "length" "I") ∈ gtbl := gt1 (i := 60) rfl rfl
theorem q_61 : (Cond.fieldLink "FlatPlan" (50 : Nat) "FlatPlan$Bytes" "length" "I") ∈ gtbl := gt1 (i := 61) rfl rfl
theorem q_62 : (Cond.fieldLink "FlatPlan$Reader" (195 : Nat) "FlatPlan$Bytes" "length" "I") ∈ gtbl := gt1 (i := 62) rfl rfl
theorem q_63 : (Cond.laysFinal "FlatPlan$Bytes" "FlatPlan$Bytes" "row" "[I") ∈ gtbl := gt1 (i := 63) rfl rfl
theorem q_65 : (Cond.lays "FlatPlan$Bytes" "FlatPlan$Bytes" "length" "I") ∈ gtbl := gt1 (i := 65) rfl rfl
theorem q_68 : (Cond.arrayClass FieldType.int) ∈ gtbl := gt1 (i := 68) rfl rfl
theorem q_69 : (Cond.classLink "FlatPlan$Reader" (20 : Nat) "FlatPlan$Plan") ∈ gtbl := gt1 (i := 69) rfl rfl
theorem q_70 : (Cond.instantiable "FlatPlan$Plan" (8 : Nat)) ∈ gtbl := gt1 (i := 70) rfl rfl
theorem q_71 : (Cond.methodLink "FlatPlan$Reader" (22 : Nat) ({ cls := "FlatPlan$Plan", name := "<init>", desc := "()V" } : Jvm.MethodName)) ∈ gtbl := gt1 (i := 71) rfl rfl
theorem q_72 : (Cond.instanceMethod ({ cls := "FlatPlan$Plan", name := "<init>", desc := "()V" } : Jvm.MethodName)) ∈ gtbl := gt1 (i := 72) rfl rfl
theorem q_73 : (Cond.code ({ cls := "FlatPlan$Plan", name := "<init>", desc := "()V" } : Jvm.MethodName) prog_6_method_1_code (1 : Nat) (Option.none : Option FieldType)) ∈ gtbl := gt1 (i := 73) rfl rfl
theorem q_74 : (Cond.methodLink "FlatPlan$Plan" (3 : Nat) ({ cls := "java/lang/Object", name := "<init>", desc := "()V" } : Jvm.MethodName)) ∈ gtbl := gt1 (i := 74) rfl rfl
theorem q_75 : (Cond.classLink "FlatPlan$Plan" (9 : Nat) "FlatPlan$State") ∈ gtbl := gt1 (i := 75) rfl rfl
theorem q_76 : (Cond.instantiable "FlatPlan$State" (8 : Nat)) ∈ gtbl := gt1 (i := 76) rfl rfl
theorem q_78 : (Cond.instanceMethod ({ cls := "FlatPlan$State", name := "<init>", desc := "()V" } : Jvm.MethodName)) ∈ gtbl := gt1 (i := 78) rfl rfl
theorem q_79 : (Cond.code ({ cls := "FlatPlan$State", name := "<init>", desc := "()V" } : Jvm.MethodName) prog_10_method_1_code (1 : Nat) (Option.none : Option FieldType)) ∈ gtbl := gt1 (i := 79) rfl rfl
theorem q_80 : (Cond.methodLink "FlatPlan$State" (1 : Nat) ({ cls := "java/lang/Object", name := "<init>", desc := "()V" } : Jvm.MethodName)) ∈ gtbl := gt1 (i := 80) rfl rfl
theorem q_81 : (Cond.classLink "FlatPlan$State" (7 : Nat) "FlatPlan$Ads") ∈ gtbl := gt1 (i := 81) rfl rfl
theorem q_82 : (Cond.instantiable "FlatPlan$Ads" (8 : Nat)) ∈ gtbl := gt1 (i := 82) rfl rfl
theorem q_84 : (Cond.instanceMethod ({ cls := "FlatPlan$Ads", name := "<init>", desc := "()V" } : Jvm.MethodName)) ∈ gtbl := gt1 (i := 84) rfl rfl
theorem q_85 : (Cond.code ({ cls := "FlatPlan$Ads", name := "<init>", desc := "()V" } : Jvm.MethodName) prog_2_method_1_code (1 : Nat) (Option.none : Option FieldType)) ∈ gtbl := gt1 (i := 85) rfl rfl
theorem q_86 : (Cond.methodLink "FlatPlan$Ads" (3 : Nat) ({ cls := "java/lang/Object", name := "<init>", desc := "()V" } : Jvm.MethodName)) ∈ gtbl := gt1 (i := 86) rfl rfl
theorem q_87 : (Cond.fieldLink "FlatPlan$Ads" (9 : Nat) "FlatPlan$Ads" "size" "[I") ∈ gtbl := gt1 (i := 87) rfl rfl
theorem q_88 : (Cond.fieldLink "FlatPlan$Searches" (81 : Nat) "FlatPlan$Ads" "size" "[I") ∈ gtbl := gt1 (i := 88) rfl rfl
theorem q_89 : (Cond.fieldLink "FlatPlan$Plan" (123 : Nat) "FlatPlan$Ads" "size" "[I") ∈ gtbl := gt1 (i := 89) rfl rfl
theorem q_90 : (Cond.fieldLink "FlatPlan" (176 : Nat) "FlatPlan$Ads" "size" "[I") ∈ gtbl := gt1 (i := 90) rfl rfl
theorem q_91 : (Cond.fieldLink "FlatPlan$Ads" (15 : Nat) "FlatPlan$Ads" "group" "[I") ∈ gtbl := gt1 (i := 91) rfl rfl
theorem q_92 : (Cond.fieldLink "FlatPlan$Plan" (126 : Nat) "FlatPlan$Ads" "group" "[I") ∈ gtbl := gt1 (i := 92) rfl rfl
theorem q_93 : (Cond.fieldLink "FlatPlan" (179 : Nat) "FlatPlan$Ads" "group" "[I") ∈ gtbl := gt1 (i := 93) rfl rfl
theorem q_94 : (Cond.fieldLink "FlatPlan$Ads" (18 : Nat) "FlatPlan$Ads" "color" "[I") ∈ gtbl := gt1 (i := 94) rfl rfl
theorem q_95 : (Cond.fieldLink "FlatPlan$Reader" (142 : Nat) "FlatPlan$Ads" "color" "[I") ∈ gtbl := gt1 (i := 95) rfl rfl
theorem q_96 : (Cond.fieldLink "FlatPlan" (167 : Nat) "FlatPlan$Ads" "color" "[I") ∈ gtbl := gt1 (i := 96) rfl rfl
theorem q_97 : (Cond.fieldLink "FlatPlan$Plan" (138 : Nat) "FlatPlan$Ads" "color" "[I") ∈ gtbl := gt1 (i := 97) rfl rfl
theorem q_98 : (Cond.fieldLink "FlatPlan$Searches" (193 : Nat) "FlatPlan$Ads" "color" "[I") ∈ gtbl := gt1 (i := 98) rfl rfl
theorem q_99 : (Cond.fieldLink "FlatPlan$Ads" (21 : Nat) "FlatPlan$Ads" "side" "[I") ∈ gtbl := gt1 (i := 99) rfl rfl
theorem q_100 : (Cond.fieldLink "FlatPlan$Reader" (143 : Nat) "FlatPlan$Ads" "side" "[I") ∈ gtbl := gt1 (i := 100) rfl rfl
theorem q_101 : (Cond.fieldLink "FlatPlan" (168 : Nat) "FlatPlan$Ads" "side" "[I") ∈ gtbl := gt1 (i := 101) rfl rfl
theorem q_102 : (Cond.fieldLink "FlatPlan$Plan" (143 : Nat) "FlatPlan$Ads" "side" "[I") ∈ gtbl := gt1 (i := 102) rfl rfl
theorem q_103 : (Cond.fieldLink "FlatPlan$Ads" (24 : Nat) "FlatPlan$Ads" "price" "[I") ∈ gtbl := gt1 (i := 103) rfl rfl
theorem q_104 : (Cond.fieldLink "FlatPlan$Searches" (78 : Nat) "FlatPlan$Ads" "price" "[I") ∈ gtbl := gt1 (i := 104) rfl rfl
theorem q_105 : (Cond.fieldLink "FlatPlan" (173 : Nat) "FlatPlan$Ads" "price" "[I") ∈ gtbl := gt1 (i := 105) rfl rfl
theorem q_106 : (Cond.fieldLink "FlatPlan$Plan" (201 : Nat) "FlatPlan$Ads" "price" "[I") ∈ gtbl := gt1 (i := 106) rfl rfl
theorem q_107 : (Cond.fieldLink "FlatPlan$Ads" (27 : Nat) "FlatPlan$Ads" "ready" "[I") ∈ gtbl := gt1 (i := 107) rfl rfl
theorem q_108 : (Cond.fieldLink "FlatPlan" (182 : Nat) "FlatPlan$Ads" "ready" "[I") ∈ gtbl := gt1 (i := 108) rfl rfl
theorem q_109 : (Cond.fieldLink "FlatPlan$Searches" (207 : Nat) "FlatPlan$Ads" "ready" "[I") ∈ gtbl := gt1 (i := 109) rfl rfl
theorem q_110 : (Cond.fieldLink "FlatPlan$Plan" (183 : Nat) "FlatPlan$Ads" "ready" "[I") ∈ gtbl := gt1 (i := 110) rfl rfl
theorem q_111 : (Cond.fieldLink "FlatPlan$Ads" (30 : Nat) "FlatPlan$Ads" "page" "[I") ∈ gtbl := gt1 (i := 111) rfl rfl
theorem q_112 : (Cond.fieldLink "FlatPlan$Searches" (60 : Nat) "FlatPlan$Ads" "page" "[I") ∈ gtbl := gt1 (i := 112) rfl rfl
theorem q_113 : (Cond.fieldLink "FlatPlan$Plan" (116 : Nat) "FlatPlan$Ads" "page" "[I") ∈ gtbl := gt1 (i := 113) rfl rfl
theorem q_114 : (Cond.fieldLink "FlatPlan" (120 : Nat) "FlatPlan$Ads" "page" "[I") ∈ gtbl := gt1 (i := 114) rfl rfl
theorem q_115 : (Cond.fieldLink "FlatPlan$Reader" (171 : Nat) "FlatPlan$Ads" "page" "[I") ∈ gtbl := gt1 (i := 115) rfl rfl
theorem q_116 : (Cond.fieldLink "FlatPlan$Ads" (33 : Nat) "FlatPlan$Ads" "number" "I") ∈ gtbl := gt1 (i := 116) rfl rfl
theorem q_117 : (Cond.fieldLink "FlatPlan$Searches" (54 : Nat) "FlatPlan$Ads" "number" "I") ∈ gtbl := gt1 (i := 117) rfl rfl
theorem q_118 : (Cond.fieldLink "FlatPlan$Plan" (49 : Nat) "FlatPlan$Ads" "number" "I") ∈ gtbl := gt1 (i := 118) rfl rfl
theorem q_119 : (Cond.fieldLink "FlatPlan$Reader" (130 : Nat) "FlatPlan$Ads" "number" "I") ∈ gtbl := gt1 (i := 119) rfl rfl
theorem q_120 : (Cond.fieldLink "FlatPlan" (98 : Nat) "FlatPlan$Ads" "number" "I") ∈ gtbl := gt1 (i := 120) rfl rfl
theorem q_121 : (Cond.laysFinal "FlatPlan$Ads" "FlatPlan$Ads" "size" "[I") ∈ gtbl := gt1 (i := 121) rfl rfl
theorem q_123 : (Cond.laysFinal "FlatPlan$Ads" "FlatPlan$Ads" "group" "[I") ∈ gtbl := gt1 (i := 123) rfl rfl
theorem q_125 : (Cond.laysFinal "FlatPlan$Ads" "FlatPlan$Ads" "color" "[I") ∈ gtbl := gt1 (i := 125) rfl rfl
theorem q_127 : (Cond.laysFinal "FlatPlan$Ads" "FlatPlan$Ads" "side" "[I") ∈ gtbl := gt1 (i := 127) rfl rfl
theorem q_129 : (Cond.laysFinal "FlatPlan$Ads" "FlatPlan$Ads" "price" "[I") ∈ gtbl := gt1 (i := 129) rfl rfl
theorem q_131 : (Cond.laysFinal "FlatPlan$Ads" "FlatPlan$Ads" "ready" "[I") ∈ gtbl := gt1 (i := 131) rfl rfl
theorem q_133 : (Cond.laysFinal "FlatPlan$Ads" "FlatPlan$Ads" "page" "[I") ∈ gtbl := gt1 (i := 133) rfl rfl
theorem q_135 : (Cond.lays "FlatPlan$Ads" "FlatPlan$Ads" "number" "I") ∈ gtbl := gt1 (i := 135) rfl rfl
theorem q_138 : (Cond.classLink "FlatPlan$State" (16 : Nat) "FlatPlan$Stories") ∈ gtbl := gt1 (i := 138) rfl rfl
theorem q_139 : (Cond.instantiable "FlatPlan$Stories" (6 : Nat)) ∈ gtbl := gt1 (i := 139) rfl rfl
theorem q_141 : (Cond.instanceMethod ({ cls := "FlatPlan$Stories", name := "<init>", desc := "()V" } : Jvm.MethodName)) ∈ gtbl := gt1 (i := 141) rfl rfl
theorem q_142 : (Cond.code ({ cls := "FlatPlan$Stories", name := "<init>", desc := "()V" } : Jvm.MethodName) prog_11_method_1_code (1 : Nat) (Option.none : Option FieldType)) ∈ gtbl := gt1 (i := 142) rfl rfl
theorem q_143 : (Cond.methodLink "FlatPlan$Stories" (3 : Nat) ({ cls := "java/lang/Object", name := "<init>", desc := "()V" } : Jvm.MethodName)) ∈ gtbl := gt1 (i := 143) rfl rfl
theorem q_144 : (Cond.fieldLink "FlatPlan$Stories" (9 : Nat) "FlatPlan$Stories" "length" "[I") ∈ gtbl := gt1 (i := 144) rfl rfl
theorem q_145 : (Cond.fieldLink "FlatPlan$Searches" (91 : Nat) "FlatPlan$Stories" "length" "[I") ∈ gtbl := gt1 (i := 145) rfl rfl
theorem q_146 : (Cond.fieldLink "FlatPlan$Plan" (132 : Nat) "FlatPlan$Stories" "length" "[I") ∈ gtbl := gt1 (i := 146) rfl rfl
theorem q_147 : (Cond.fieldLink "FlatPlan" (195 : Nat) "FlatPlan$Stories" "length" "[I") ∈ gtbl := gt1 (i := 147) rfl rfl
theorem q_148 : (Cond.fieldLink "FlatPlan$Stories" (15 : Nat) "FlatPlan$Stories" "color" "[I") ∈ gtbl := gt1 (i := 148) rfl rfl
theorem q_149 : (Cond.fieldLink "FlatPlan" (197 : Nat) "FlatPlan$Stories" "color" "[I") ∈ gtbl := gt1 (i := 149) rfl rfl
theorem q_150 : (Cond.fieldLink "FlatPlan$Plan" (162 : Nat) "FlatPlan$Stories" "color" "[I") ∈ gtbl := gt1 (i := 150) rfl rfl
theorem q_151 : (Cond.fieldLink "FlatPlan$Searches" (194 : Nat) "FlatPlan$Stories" "color" "[I") ∈ gtbl := gt1 (i := 151) rfl rfl
theorem q_152 : (Cond.fieldLink "FlatPlan$Stories" (18 : Nat) "FlatPlan$Stories" "side" "[I") ∈ gtbl := gt1 (i := 152) rfl rfl
theorem q_153 : (Cond.fieldLink "FlatPlan" (198 : Nat) "FlatPlan$Stories" "side" "[I") ∈ gtbl := gt1 (i := 153) rfl rfl
theorem q_154 : (Cond.fieldLink "FlatPlan$Plan" (155 : Nat) "FlatPlan$Stories" "side" "[I") ∈ gtbl := gt1 (i := 154) rfl rfl
theorem q_155 : (Cond.fieldLink "FlatPlan$Stories" (21 : Nat) "FlatPlan$Stories" "ready" "[I") ∈ gtbl := gt1 (i := 155) rfl rfl
theorem q_156 : (Cond.fieldLink "FlatPlan" (199 : Nat) "FlatPlan$Stories" "ready" "[I") ∈ gtbl := gt1 (i := 156) rfl rfl
theorem q_157 : (Cond.fieldLink "FlatPlan$Searches" (223 : Nat) "FlatPlan$Stories" "ready" "[I") ∈ gtbl := gt1 (i := 157) rfl rfl
theorem q_158 : (Cond.fieldLink "FlatPlan$Plan" (189 : Nat) "FlatPlan$Stories" "ready" "[I") ∈ gtbl := gt1 (i := 158) rfl rfl
theorem q_159 : (Cond.fieldLink "FlatPlan$Stories" (24 : Nat) "FlatPlan$Stories" "page" "[I") ∈ gtbl := gt1 (i := 159) rfl rfl
theorem q_160 : (Cond.fieldLink "FlatPlan$Searches" (94 : Nat) "FlatPlan$Stories" "page" "[I") ∈ gtbl := gt1 (i := 160) rfl rfl
theorem q_161 : (Cond.fieldLink "FlatPlan$Plan" (131 : Nat) "FlatPlan$Stories" "page" "[I") ∈ gtbl := gt1 (i := 161) rfl rfl
theorem q_162 : (Cond.fieldLink "FlatPlan" (128 : Nat) "FlatPlan$Stories" "page" "[I") ∈ gtbl := gt1 (i := 162) rfl rfl
theorem q_163 : (Cond.fieldLink "FlatPlan$Reader" (181 : Nat) "FlatPlan$Stories" "page" "[I") ∈ gtbl := gt1 (i := 163) rfl rfl
theorem q_164 : (Cond.fieldLink "FlatPlan$Stories" (27 : Nat) "FlatPlan$Stories" "number" "I") ∈ gtbl := gt1 (i := 164) rfl rfl
theorem q_165 : (Cond.fieldLink "FlatPlan$Plan" (58 : Nat) "FlatPlan$Stories" "number" "I") ∈ gtbl := gt1 (i := 165) rfl rfl
theorem q_166 : (Cond.fieldLink "FlatPlan$Searches" (88 : Nat) "FlatPlan$Stories" "number" "I") ∈ gtbl := gt1 (i := 166) rfl rfl
theorem q_167 : (Cond.fieldLink "FlatPlan$Reader" (150 : Nat) "FlatPlan$Stories" "number" "I") ∈ gtbl := gt1 (i := 167) rfl rfl
theorem q_168 : (Cond.fieldLink "FlatPlan" (107 : Nat) "FlatPlan$Stories" "number" "I") ∈ gtbl := gt1 (i := 168) rfl rfl
theorem q_169 : (Cond.laysFinal "FlatPlan$Stories" "FlatPlan$Stories" "length" "[I") ∈ gtbl := gt1 (i := 169) rfl rfl
theorem q_171 : (Cond.laysFinal "FlatPlan$Stories" "FlatPlan$Stories" "color" "[I") ∈ gtbl := gt1 (i := 171) rfl rfl
theorem q_173 : (Cond.laysFinal "FlatPlan$Stories" "FlatPlan$Stories" "side" "[I") ∈ gtbl := gt1 (i := 173) rfl rfl
theorem q_175 : (Cond.laysFinal "FlatPlan$Stories" "FlatPlan$Stories" "ready" "[I") ∈ gtbl := gt1 (i := 175) rfl rfl
theorem q_177 : (Cond.laysFinal "FlatPlan$Stories" "FlatPlan$Stories" "page" "[I") ∈ gtbl := gt1 (i := 177) rfl rfl
theorem q_179 : (Cond.lays "FlatPlan$Stories" "FlatPlan$Stories" "number" "I") ∈ gtbl := gt1 (i := 179) rfl rfl
theorem q_182 : (Cond.classLink "FlatPlan$State" (23 : Nat) "FlatPlan$Standbys") ∈ gtbl := gt1 (i := 182) rfl rfl
theorem q_183 : (Cond.instantiable "FlatPlan$Standbys" (3 : Nat)) ∈ gtbl := gt1 (i := 183) rfl rfl
theorem q_185 : (Cond.instanceMethod ({ cls := "FlatPlan$Standbys", name := "<init>", desc := "()V" } : Jvm.MethodName)) ∈ gtbl := gt1 (i := 185) rfl rfl
theorem q_186 : (Cond.code ({ cls := "FlatPlan$Standbys", name := "<init>", desc := "()V" } : Jvm.MethodName) prog_9_method_1_code (1 : Nat) (Option.none : Option FieldType)) ∈ gtbl := gt1 (i := 186) rfl rfl
theorem q_187 : (Cond.methodLink "FlatPlan$Standbys" (3 : Nat) ({ cls := "java/lang/Object", name := "<init>", desc := "()V" } : Jvm.MethodName)) ∈ gtbl := gt1 (i := 187) rfl rfl
theorem q_188 : (Cond.fieldLink "FlatPlan$Standbys" (9 : Nat) "FlatPlan$Standbys" "size" "[I") ∈ gtbl := gt1 (i := 188) rfl rfl
theorem q_189 : (Cond.fieldLink "FlatPlan$Plan" (130 : Nat) "FlatPlan$Standbys" "size" "[I") ∈ gtbl := gt1 (i := 189) rfl rfl
theorem q_190 : (Cond.fieldLink "FlatPlan" (203 : Nat) "FlatPlan$Standbys" "size" "[I") ∈ gtbl := gt1 (i := 190) rfl rfl
theorem q_191 : (Cond.fieldLink "FlatPlan$Standbys" (15 : Nat) "FlatPlan$Standbys" "page" "[I") ∈ gtbl := gt1 (i := 191) rfl rfl
theorem q_192 : (Cond.fieldLink "FlatPlan$Plan" (129 : Nat) "FlatPlan$Standbys" "page" "[I") ∈ gtbl := gt1 (i := 192) rfl rfl
theorem q_193 : (Cond.fieldLink "FlatPlan" (129 : Nat) "FlatPlan$Standbys" "page" "[I") ∈ gtbl := gt1 (i := 193) rfl rfl
theorem q_194 : (Cond.fieldLink "FlatPlan$Standbys" (18 : Nat) "FlatPlan$Standbys" "number" "I") ∈ gtbl := gt1 (i := 194) rfl rfl
theorem q_195 : (Cond.fieldLink "FlatPlan$Plan" (65 : Nat) "FlatPlan$Standbys" "number" "I") ∈ gtbl := gt1 (i := 195) rfl rfl
theorem q_196 : (Cond.fieldLink "FlatPlan" (114 : Nat) "FlatPlan$Standbys" "number" "I") ∈ gtbl := gt1 (i := 196) rfl rfl
theorem q_197 : (Cond.fieldLink "FlatPlan$Reader" (160 : Nat) "FlatPlan$Standbys" "number" "I") ∈ gtbl := gt1 (i := 197) rfl rfl
theorem q_198 : (Cond.laysFinal "FlatPlan$Standbys" "FlatPlan$Standbys" "size" "[I") ∈ gtbl := gt1 (i := 198) rfl rfl
theorem q_200 : (Cond.laysFinal "FlatPlan$Standbys" "FlatPlan$Standbys" "page" "[I") ∈ gtbl := gt1 (i := 200) rfl rfl
theorem q_202 : (Cond.lays "FlatPlan$Standbys" "FlatPlan$Standbys" "number" "I") ∈ gtbl := gt1 (i := 202) rfl rfl
theorem q_205 : (Cond.classLink "FlatPlan$State" (30 : Nat) "FlatPlan$Forms") ∈ gtbl := gt1 (i := 205) rfl rfl
theorem q_206 : (Cond.instantiable "FlatPlan$Forms" (3 : Nat)) ∈ gtbl := gt1 (i := 206) rfl rfl
theorem q_208 : (Cond.instanceMethod ({ cls := "FlatPlan$Forms", name := "<init>", desc := "()V" } : Jvm.MethodName)) ∈ gtbl := gt1 (i := 208) rfl rfl
theorem q_209 : (Cond.code ({ cls := "FlatPlan$Forms", name := "<init>", desc := "()V" } : Jvm.MethodName) prog_4_method_1_code (1 : Nat) (Option.none : Option FieldType)) ∈ gtbl := gt1 (i := 209) rfl rfl
theorem q_210 : (Cond.methodLink "FlatPlan$Forms" (3 : Nat) ({ cls := "java/lang/Object", name := "<init>", desc := "()V" } : Jvm.MethodName)) ∈ gtbl := gt1 (i := 210) rfl rfl
theorem q_211 : (Cond.fieldLink "FlatPlan$Forms" (9 : Nat) "FlatPlan$Forms" "color" "[I") ∈ gtbl := gt1 (i := 211) rfl rfl
theorem q_212 : (Cond.fieldLink "FlatPlan$Plan" (78 : Nat) "FlatPlan$Forms" "color" "[I") ∈ gtbl := gt1 (i := 212) rfl rfl
theorem q_213 : (Cond.fieldLink "FlatPlan$Reader" (122 : Nat) "FlatPlan$Forms" "color" "[I") ∈ gtbl := gt1 (i := 213) rfl rfl
theorem q_214 : (Cond.fieldLink "FlatPlan" (138 : Nat) "FlatPlan$Forms" "color" "[I") ∈ gtbl := gt1 (i := 214) rfl rfl
theorem q_215 : (Cond.fieldLink "FlatPlan$Searches" (175 : Nat) "FlatPlan$Forms" "color" "[I") ∈ gtbl := gt1 (i := 215) rfl rfl
theorem q_216 : (Cond.fieldLink "FlatPlan$Forms" (15 : Nat) "FlatPlan$Forms" "printed" "[I") ∈ gtbl := gt1 (i := 216) rfl rfl
theorem q_217 : (Cond.fieldLink "FlatPlan$Plan" (89 : Nat) "FlatPlan$Forms" "printed" "[I") ∈ gtbl := gt1 (i := 217) rfl rfl
theorem q_218 : (Cond.fieldLink "FlatPlan" (133 : Nat) "FlatPlan$Forms" "printed" "[I") ∈ gtbl := gt1 (i := 218) rfl rfl
theorem q_219 : (Cond.fieldLink "FlatPlan$Searches" (170 : Nat) "FlatPlan$Forms" "printed" "[I") ∈ gtbl := gt1 (i := 219) rfl rfl
theorem q_220 : (Cond.fieldLink "FlatPlan$Forms" (18 : Nat) "FlatPlan$Forms" "closing" "[I") ∈ gtbl := gt1 (i := 220) rfl rfl
theorem q_221 : (Cond.fieldLink "FlatPlan$Plan" (92 : Nat) "FlatPlan$Forms" "closing" "[I") ∈ gtbl := gt1 (i := 221) rfl rfl
theorem q_222 : (Cond.fieldLink "FlatPlan$Reader" (165 : Nat) "FlatPlan$Forms" "closing" "[I") ∈ gtbl := gt1 (i := 222) rfl rfl
theorem q_223 : (Cond.fieldLink "FlatPlan" (226 : Nat) "FlatPlan$Forms" "closing" "[I") ∈ gtbl := gt1 (i := 223) rfl rfl
theorem q_224 : (Cond.laysFinal "FlatPlan$Forms" "FlatPlan$Forms" "color" "[I") ∈ gtbl := gt1 (i := 224) rfl rfl
theorem q_226 : (Cond.laysFinal "FlatPlan$Forms" "FlatPlan$Forms" "printed" "[I") ∈ gtbl := gt1 (i := 226) rfl rfl
theorem q_228 : (Cond.laysFinal "FlatPlan$Forms" "FlatPlan$Forms" "closing" "[I") ∈ gtbl := gt1 (i := 228) rfl rfl
theorem q_231 : (Cond.fieldLink "FlatPlan$State" (10 : Nat) "FlatPlan$State" "ads" "LFlatPlan$Ads;") ∈ gtbl := gt1 (i := 231) rfl rfl
theorem q_232 : (Cond.fieldLink "FlatPlan$Searches" (48 : Nat) "FlatPlan$State" "ads" "LFlatPlan$Ads;") ∈ gtbl := gt1 (i := 232) rfl rfl
theorem q_233 : (Cond.fieldLink "FlatPlan$Plan" (45 : Nat) "FlatPlan$State" "ads" "LFlatPlan$Ads;") ∈ gtbl := gt1 (i := 233) rfl rfl
theorem q_234 : (Cond.fieldLink "FlatPlan$Reader" (126 : Nat) "FlatPlan$State" "ads" "LFlatPlan$Ads;") ∈ gtbl := gt1 (i := 234) rfl rfl
theorem q_235 : (Cond.fieldLink "FlatPlan" (94 : Nat) "FlatPlan$State" "ads" "LFlatPlan$Ads;") ∈ gtbl := gt1 (i := 235) rfl rfl
theorem q_236 : (Cond.fieldLink "FlatPlan$State" (19 : Nat) "FlatPlan$State" "stories" "LFlatPlan$Stories;") ∈ gtbl := gt1 (i := 236) rfl rfl
theorem q_237 : (Cond.fieldLink "FlatPlan$Plan" (54 : Nat) "FlatPlan$State" "stories" "LFlatPlan$Stories;") ∈ gtbl := gt1 (i := 237) rfl rfl
theorem q_238 : (Cond.fieldLink "FlatPlan$Searches" (84 : Nat) "FlatPlan$State" "stories" "LFlatPlan$Stories;") ∈ gtbl := gt1 (i := 238) rfl rfl
theorem q_239 : (Cond.fieldLink "FlatPlan$Reader" (146 : Nat) "FlatPlan$State" "stories" "LFlatPlan$Stories;") ∈ gtbl := gt1 (i := 239) rfl rfl
theorem q_240 : (Cond.fieldLink "FlatPlan" (103 : Nat) "FlatPlan$State" "stories" "LFlatPlan$Stories;") ∈ gtbl := gt2 (i := 0) rfl rfl
theorem q_241 : (Cond.fieldLink "FlatPlan$State" (26 : Nat) "FlatPlan$State" "standbys" "LFlatPlan$Standbys;") ∈ gtbl := gt2 (i := 1) rfl rfl
theorem q_242 : (Cond.fieldLink "FlatPlan$Plan" (61 : Nat) "FlatPlan$State" "standbys" "LFlatPlan$Standbys;") ∈ gtbl := gt2 (i := 2) rfl rfl
theorem q_243 : (Cond.fieldLink "FlatPlan" (110 : Nat) "FlatPlan$State" "standbys" "LFlatPlan$Standbys;") ∈ gtbl := gt2 (i := 3) rfl rfl
theorem q_244 : (Cond.fieldLink "FlatPlan$Reader" (156 : Nat) "FlatPlan$State" "standbys" "LFlatPlan$Standbys;") ∈ gtbl := gt2 (i := 4) rfl rfl
theorem q_245 : (Cond.fieldLink "FlatPlan$State" (33 : Nat) "FlatPlan$State" "forms" "LFlatPlan$Forms;") ∈ gtbl := gt2 (i := 5) rfl rfl
theorem q_246 : (Cond.fieldLink "FlatPlan$Plan" (74 : Nat) "FlatPlan$State" "forms" "LFlatPlan$Forms;") ∈ gtbl := gt2 (i := 6) rfl rfl
theorem q_247 : (Cond.fieldLink "FlatPlan$Reader" (117 : Nat) "FlatPlan$State" "forms" "LFlatPlan$Forms;") ∈ gtbl := gt2 (i := 7) rfl rfl
theorem q_248 : (Cond.fieldLink "FlatPlan" (130 : Nat) "FlatPlan$State" "forms" "LFlatPlan$Forms;") ∈ gtbl := gt2 (i := 8) rfl rfl
theorem q_249 : (Cond.fieldLink "FlatPlan$Searches" (167 : Nat) "FlatPlan$State" "forms" "LFlatPlan$Forms;") ∈ gtbl := gt2 (i := 9) rfl rfl
theorem q_250 : (Cond.fieldLink "FlatPlan$Plan" (38 : Nat) "FlatPlan$State" "signatures" "I") ∈ gtbl := gt2 (i := 10) rfl rfl
theorem q_251 : (Cond.fieldLink "FlatPlan$State" (50 : Nat) "FlatPlan$State" "signatures" "I") ∈ gtbl := gt2 (i := 11) rfl rfl
theorem q_252 : (Cond.fieldLink "FlatPlan" (86 : Nat) "FlatPlan$State" "signatures" "I") ∈ gtbl := gt2 (i := 12) rfl rfl
theorem q_253 : (Cond.fieldLink "FlatPlan$Plan" (42 : Nat) "FlatPlan$State" "signaturePages" "I") ∈ gtbl := gt2 (i := 13) rfl rfl
theorem q_254 : (Cond.fieldLink "FlatPlan$State" (54 : Nat) "FlatPlan$State" "signaturePages" "I") ∈ gtbl := gt2 (i := 14) rfl rfl
theorem q_255 : (Cond.fieldLink "FlatPlan" (229 : Nat) "FlatPlan$State" "signaturePages" "I") ∈ gtbl := gt2 (i := 15) rfl rfl
theorem q_256 : (Cond.fieldLink "FlatPlan$Plan" (68 : Nat) "FlatPlan$State" "time" "I") ∈ gtbl := gt2 (i := 16) rfl rfl
theorem q_257 : (Cond.fieldLink "FlatPlan$State" (57 : Nat) "FlatPlan$State" "time" "I") ∈ gtbl := gt2 (i := 17) rfl rfl
theorem q_258 : (Cond.fieldLink "FlatPlan" (117 : Nat) "FlatPlan$State" "time" "I") ∈ gtbl := gt2 (i := 18) rfl rfl
theorem q_259 : (Cond.fieldLink "FlatPlan$Plan" (71 : Nat) "FlatPlan$State" "lost" "I") ∈ gtbl := gt2 (i := 19) rfl rfl
theorem q_260 : (Cond.fieldLink "FlatPlan$State" (60 : Nat) "FlatPlan$State" "lost" "I") ∈ gtbl := gt2 (i := 20) rfl rfl
theorem q_261 : (Cond.fieldLink "FlatPlan" (340 : Nat) "FlatPlan$State" "lost" "I") ∈ gtbl := gt2 (i := 21) rfl rfl
theorem q_262 : (Cond.laysFinal "FlatPlan$State" "FlatPlan$State" "ads" "LFlatPlan$Ads;") ∈ gtbl := gt2 (i := 22) rfl rfl
theorem q_264 : (Cond.laysFinal "FlatPlan$State" "FlatPlan$State" "stories" "LFlatPlan$Stories;") ∈ gtbl := gt2 (i := 24) rfl rfl
theorem q_266 : (Cond.laysFinal "FlatPlan$State" "FlatPlan$State" "standbys" "LFlatPlan$Standbys;") ∈ gtbl := gt2 (i := 26) rfl rfl
theorem q_268 : (Cond.laysFinal "FlatPlan$State" "FlatPlan$State" "forms" "LFlatPlan$Forms;") ∈ gtbl := gt2 (i := 28) rfl rfl
theorem q_270 : (Cond.lays "FlatPlan$State" "FlatPlan$State" "signatures" "I") ∈ gtbl := gt2 (i := 30) rfl rfl
theorem q_272 : (Cond.lays "FlatPlan$State" "FlatPlan$State" "signaturePages" "I") ∈ gtbl := gt2 (i := 32) rfl rfl
theorem q_274 : (Cond.lays "FlatPlan$State" "FlatPlan$State" "time" "I") ∈ gtbl := gt2 (i := 34) rfl rfl
theorem q_276 : (Cond.lays "FlatPlan$State" "FlatPlan$State" "lost" "I") ∈ gtbl := gt2 (i := 36) rfl rfl
theorem q_279 : (Cond.methodLink "FlatPlan$Plan" (34 : Nat) ({ cls := "FlatPlan$Plan", name := "begin", desc := "(II)V" } : Jvm.MethodName)) ∈ gtbl := gt2 (i := 39) rfl rfl
theorem q_280 : (Cond.instanceMethod ({ cls := "FlatPlan$Plan", name := "begin", desc := "(II)V" } : Jvm.MethodName)) ∈ gtbl := gt2 (i := 40) rfl rfl
theorem q_281 : (Cond.selects "FlatPlan$Plan" ({ cls := "FlatPlan$Plan", name := "begin", desc := "(II)V" } : Jvm.MethodName) ({ cls := "FlatPlan$Plan", name := "begin", desc := "(II)V" } : Jvm.MethodName)) ∈ gtbl := gt2 (i := 41) rfl rfl
theorem q_282 : (Cond.code ({ cls := "FlatPlan$Plan", name := "begin", desc := "(II)V" } : Jvm.MethodName) prog_6_method_2_code (3 : Nat) (Option.none : Option FieldType)) ∈ gtbl := gt2 (i := 42) rfl rfl
theorem q_283 : (Cond.methodLink "FlatPlan$Plan" (83 : Nat) ({ cls := "java/util/Arrays", name := "fill", desc := "([II)V" } : Jvm.MethodName)) ∈ gtbl := gt2 (i := 43) rfl rfl
theorem q_284 : (Cond.static ({ cls := "java/util/Arrays", name := "fill", desc := "([II)V" } : Jvm.MethodName)) ∈ gtbl := gt2 (i := 44) rfl rfl
theorem q_285 : (Cond.code ({ cls := "java/util/Arrays", name := "fill", desc := "([II)V" } : Jvm.MethodName) prog_45_method_103_code (4 : Nat) (Option.none : Option FieldType)) ∈ gtbl := gt2 (i := 45) rfl rfl
theorem q_286 : (Cond.methodLink "FlatPlan$Plan" (95 : Nat) ({ cls := "FlatPlan$Plan", name := "layOut", desc := "()V" } : Jvm.MethodName)) ∈ gtbl := gt2 (i := 46) rfl rfl
theorem q_288 : (Cond.instanceMethod ({ cls := "FlatPlan$Plan", name := "layOut", desc := "()V" } : Jvm.MethodName)) ∈ gtbl := gt2 (i := 48) rfl rfl
theorem q_289 : (Cond.code ({ cls := "FlatPlan$Plan", name := "layOut", desc := "()V" } : Jvm.MethodName) prog_6_method_4_code (5 : Nat) (Option.none : Option FieldType)) ∈ gtbl := gt2 (i := 49) rfl rfl
theorem q_290 : (Cond.methodLink "FlatPlan$Plan" (105 : Nat) ({ cls := "java/lang/Math", name := "min", desc := "(II)I" } : Jvm.MethodName)) ∈ gtbl := gt2 (i := 50) rfl rfl
theorem q_291 : (Cond.static ({ cls := "java/lang/Math", name := "min", desc := "(II)I" } : Jvm.MethodName)) ∈ gtbl := gt2 (i := 51) rfl rfl
theorem q_292 : (Cond.code ({ cls := "java/lang/Math", name := "min", desc := "(II)I" } : Jvm.MethodName) prog_30_method_69_code (2 : Nat) (Option.some FieldType.int)) ∈ gtbl := gt2 (i := 52) rfl rfl
theorem q_293 : (Cond.methodLink "FlatPlan$Plan" (98 : Nat) ({ cls := "FlatPlan$Plan", name := "recount", desc := "()V" } : Jvm.MethodName)) ∈ gtbl := gt2 (i := 53) rfl rfl
theorem q_294 : (Cond.instanceMethod ({ cls := "FlatPlan$Plan", name := "recount", desc := "()V" } : Jvm.MethodName)) ∈ gtbl := gt2 (i := 54) rfl rfl
theorem q_295 : (Cond.selects "FlatPlan$Plan" ({ cls := "FlatPlan$Plan", name := "recount", desc := "()V" } : Jvm.MethodName) ({ cls := "FlatPlan$Plan", name := "recount", desc := "()V" } : Jvm.MethodName)) ∈ gtbl := gt2 (i := 55) rfl rfl
theorem q_296 : (Cond.code ({ cls := "FlatPlan$Plan", name := "recount", desc := "()V" } : Jvm.MethodName) prog_6_method_5_code (8 : Nat) (Option.none : Option FieldType)) ∈ gtbl := gt2 (i := 56) rfl rfl
theorem q_297 : (Cond.methodLink "FlatPlan$Plan" (119 : Nat) ({ cls := "FlatPlan$Plan", name := "hasPage", desc := "(I)Z" } : Jvm.MethodName)) ∈ gtbl := gt2 (i := 57) rfl rfl
theorem q_298 : (Cond.instanceMethod ({ cls := "FlatPlan$Plan", name := "hasPage", desc := "(I)Z" } : Jvm.MethodName)) ∈ gtbl := gt2 (i := 58) rfl rfl
theorem q_299 : (Cond.selects "FlatPlan$Plan" ({ cls := "FlatPlan$Plan", name := "hasPage", desc := "(I)Z" } : Jvm.MethodName) ({ cls := "FlatPlan$Plan", name := "hasPage", desc := "(I)Z" } : Jvm.MethodName)) ∈ gtbl := gt2 (i := 59) rfl rfl
theorem q_300 : (Cond.code ({ cls := "FlatPlan$Plan", name := "hasPage", desc := "(I)Z" } : Jvm.MethodName) prog_6_method_6_code (2 : Nat) (Option.some FieldType.boolean)) ∈ gtbl := gt2 (i := 60) rfl rfl
theorem q_301 : (Cond.fieldLink "FlatPlan$Plan" (12 : Nat) "FlatPlan$Plan" "now" "LFlatPlan$State;") ∈ gtbl := gt2 (i := 61) rfl rfl
theorem q_302 : (Cond.fieldLink "FlatPlan$Searches" (18 : Nat) "FlatPlan$Plan" "now" "LFlatPlan$State;") ∈ gtbl := gt2 (i := 62) rfl rfl
theorem q_303 : (Cond.fieldLink "FlatPlan" (64 : Nat) "FlatPlan$Plan" "now" "LFlatPlan$State;") ∈ gtbl := gt2 (i := 63) rfl rfl
theorem q_304 : (Cond.fieldLink "FlatPlan$Reader" (113 : Nat) "FlatPlan$Plan" "now" "LFlatPlan$State;") ∈ gtbl := gt2 (i := 64) rfl rfl
theorem q_305 : (Cond.fieldLink "FlatPlan$Plan" (111 : Nat) "FlatPlan$Plan" "pages" "I") ∈ gtbl := gt2 (i := 65) rfl rfl
theorem q_306 : (Cond.fieldLink "FlatPlan$Searches" (99 : Nat) "FlatPlan$Plan" "pages" "I") ∈ gtbl := gt2 (i := 66) rfl rfl
theorem q_307 : (Cond.fieldLink "FlatPlan" (83 : Nat) "FlatPlan$Plan" "pages" "I") ∈ gtbl := gt2 (i := 67) rfl rfl
theorem q_308 : (Cond.fieldLink "FlatPlan$Reader" (168 : Nat) "FlatPlan$Plan" "pages" "I") ∈ gtbl := gt2 (i := 68) rfl rfl
theorem q_309 : (Cond.fieldLink "FlatPlan$Plan" (114 : Nat) "FlatPlan$Plan" "forms" "I") ∈ gtbl := gt2 (i := 69) rfl rfl
theorem q_310 : (Cond.fieldLink "FlatPlan$Reader" (110 : Nat) "FlatPlan$Plan" "forms" "I") ∈ gtbl := gt2 (i := 70) rfl rfl
theorem q_311 : (Cond.fieldLink "FlatPlan" (91 : Nat) "FlatPlan$Plan" "forms" "I") ∈ gtbl := gt2 (i := 71) rfl rfl
theorem q_312 : (Cond.fieldLink "FlatPlan$Searches" (156 : Nat) "FlatPlan$Plan" "forms" "I") ∈ gtbl := gt2 (i := 72) rfl rfl
theorem q_313 : (Cond.fieldLink "FlatPlan$Plan" (18 : Nat) "FlatPlan$Plan" "formOf" "[I") ∈ gtbl := gt2 (i := 73) rfl rfl
theorem q_314 : (Cond.fieldLink "FlatPlan" (210 : Nat) "FlatPlan$Plan" "formOf" "[I") ∈ gtbl := gt2 (i := 74) rfl rfl
theorem q_315 : (Cond.fieldLink "FlatPlan$Searches" (195 : Nat) "FlatPlan$Plan" "formOf" "[I") ∈ gtbl := gt2 (i := 75) rfl rfl
theorem q_316 : (Cond.fieldLink "FlatPlan$Plan" (22 : Nat) "FlatPlan$Plan" "signatureOf" "[I") ∈ gtbl := gt2 (i := 76) rfl rfl
theorem q_317 : (Cond.fieldLink "FlatPlan" (207 : Nat) "FlatPlan$Plan" "signatureOf" "[I") ∈ gtbl := gt2 (i := 77) rfl rfl
theorem q_318 : (Cond.fieldLink "FlatPlan$Plan" (25 : Nat) "FlatPlan$Plan" "left" "[I") ∈ gtbl := gt2 (i := 78) rfl rfl
theorem q_319 : (Cond.fieldLink "FlatPlan" (213 : Nat) "FlatPlan$Plan" "left" "[I") ∈ gtbl := gt2 (i := 79) rfl rfl
theorem q_320 : (Cond.fieldLink "FlatPlan$Plan" (28 : Nat) "FlatPlan$Plan" "storyOn" "[I") ∈ gtbl := gt2 (i := 80) rfl rfl
theorem q_321 : (Cond.fieldLink "FlatPlan$Searches" (115 : Nat) "FlatPlan$Plan" "storyOn" "[I") ∈ gtbl := gt2 (i := 81) rfl rfl
theorem q_322 : (Cond.fieldLink "FlatPlan" (220 : Nat) "FlatPlan$Plan" "storyOn" "[I") ∈ gtbl := gt2 (i := 82) rfl rfl
theorem q_323 : (Cond.fieldLink "FlatPlan$Plan" (31 : Nat) "FlatPlan$Plan" "adsOfGroup" "[I") ∈ gtbl := gt2 (i := 83) rfl rfl
theorem q_324 : (Cond.fieldLink "FlatPlan" (334 : Nat) "FlatPlan$Plan" "adsOfGroup" "[I") ∈ gtbl := gt2 (i := 84) rfl rfl
theorem q_325 : (Cond.laysFinal "FlatPlan$Plan" "FlatPlan$Plan" "now" "LFlatPlan$State;") ∈ gtbl := gt2 (i := 85) rfl rfl
theorem q_327 : (Cond.lays "FlatPlan$Plan" "FlatPlan$Plan" "pages" "I") ∈ gtbl := gt2 (i := 87) rfl rfl
theorem q_329 : (Cond.lays "FlatPlan$Plan" "FlatPlan$Plan" "forms" "I") ∈ gtbl := gt2 (i := 89) rfl rfl
theorem q_331 : (Cond.laysFinal "FlatPlan$Plan" "FlatPlan$Plan" "formOf" "[I") ∈ gtbl := gt2 (i := 91) rfl rfl
theorem q_333 : (Cond.laysFinal "FlatPlan$Plan" "FlatPlan$Plan" "signatureOf" "[I") ∈ gtbl := gt2 (i := 93) rfl rfl
theorem q_335 : (Cond.laysFinal "FlatPlan$Plan" "FlatPlan$Plan" "left" "[I") ∈ gtbl := gt2 (i := 95) rfl rfl
theorem q_337 : (Cond.laysFinal "FlatPlan$Plan" "FlatPlan$Plan" "storyOn" "[I") ∈ gtbl := gt2 (i := 97) rfl rfl
theorem q_339 : (Cond.laysFinal "FlatPlan$Plan" "FlatPlan$Plan" "adsOfGroup" "[I") ∈ gtbl := gt2 (i := 99) rfl rfl
theorem q_342 : (Cond.fieldLink "FlatPlan$Reader" (14 : Nat) "FlatPlan$Reader" "text" "LFlatPlan$Bytes;") ∈ gtbl := gt2 (i := 102) rfl rfl
theorem q_343 : (Cond.fieldLink "FlatPlan" (16 : Nat) "FlatPlan$Reader" "text" "LFlatPlan$Bytes;") ∈ gtbl := gt2 (i := 103) rfl rfl
theorem q_344 : (Cond.fieldLink "FlatPlan$Reader" (23 : Nat) "FlatPlan$Reader" "draft" "LFlatPlan$Plan;") ∈ gtbl := gt2 (i := 104) rfl rfl
theorem q_345 : (Cond.fieldLink "FlatPlan" (61 : Nat) "FlatPlan$Reader" "draft" "LFlatPlan$Plan;") ∈ gtbl := gt2 (i := 105) rfl rfl
theorem q_346 : (Cond.fieldLink "FlatPlan$Reader" (27 : Nat) "FlatPlan$Reader" "value" "[I") ∈ gtbl := gt2 (i := 106) rfl rfl
theorem q_347 : (Cond.fieldLink "FlatPlan$Reader" (38 : Nat) "FlatPlan$Reader" "at" "I") ∈ gtbl := gt2 (i := 107) rfl rfl
theorem q_348 : (Cond.fieldLink "FlatPlan$Reader" (58 : Nat) "FlatPlan$Reader" "kind" "I") ∈ gtbl := gt2 (i := 108) rfl rfl
theorem q_349 : (Cond.fieldLink "FlatPlan$Reader" (192 : Nat) "FlatPlan$Reader" "start" "I") ∈ gtbl := gt2 (i := 109) rfl rfl
theorem q_350 : (Cond.fieldLink "FlatPlan$Reader" (35 : Nat) "FlatPlan$Reader" "code" "I") ∈ gtbl := gt2 (i := 110) rfl rfl
theorem q_351 : (Cond.fieldLink "FlatPlan" (77 : Nat) "FlatPlan$Reader" "code" "I") ∈ gtbl := gt2 (i := 111) rfl rfl
theorem q_352 : (Cond.fieldLink "FlatPlan$Reader" (31 : Nat) "FlatPlan$Reader" "position" "I") ∈ gtbl := gt2 (i := 112) rfl rfl
theorem q_353 : (Cond.fieldLink "FlatPlan" (80 : Nat) "FlatPlan$Reader" "position" "I") ∈ gtbl := gt2 (i := 113) rfl rfl
theorem q_354 : (Cond.laysFinal "FlatPlan$Reader" "FlatPlan$Reader" "text" "LFlatPlan$Bytes;") ∈ gtbl := gt2 (i := 114) rfl rfl
theorem q_356 : (Cond.laysFinal "FlatPlan$Reader" "FlatPlan$Reader" "draft" "LFlatPlan$Plan;") ∈ gtbl := gt2 (i := 116) rfl rfl
theorem q_358 : (Cond.laysFinal "FlatPlan$Reader" "FlatPlan$Reader" "value" "[I") ∈ gtbl := gt2 (i := 118) rfl rfl
theorem q_360 : (Cond.lays "FlatPlan$Reader" "FlatPlan$Reader" "at" "I") ∈ gtbl := gt2 (i := 120) rfl rfl
theorem q_362 : (Cond.lays "FlatPlan$Reader" "FlatPlan$Reader" "kind" "I") ∈ gtbl := gt2 (i := 122) rfl rfl
theorem q_364 : (Cond.lays "FlatPlan$Reader" "FlatPlan$Reader" "start" "I") ∈ gtbl := gt2 (i := 124) rfl rfl
theorem q_366 : (Cond.lays "FlatPlan$Reader" "FlatPlan$Reader" "code" "I") ∈ gtbl := gt2 (i := 126) rfl rfl
theorem q_368 : (Cond.lays "FlatPlan$Reader" "FlatPlan$Reader" "position" "I") ∈ gtbl := gt2 (i := 128) rfl rfl
theorem q_371 : (Cond.classLink "FlatPlan" (23 : Nat) "FlatPlan$Searches") ∈ gtbl := gt2 (i := 131) rfl rfl
theorem q_372 : (Cond.instantiable "FlatPlan$Searches" (10 : Nat)) ∈ gtbl := gt2 (i := 132) rfl rfl
theorem q_374 : (Cond.instanceMethod ({ cls := "FlatPlan$Searches", name := "<init>", desc := "()V" } : Jvm.MethodName)) ∈ gtbl := gt2 (i := 134) rfl rfl
theorem q_375 : (Cond.code ({ cls := "FlatPlan$Searches", name := "<init>", desc := "()V" } : Jvm.MethodName) prog_8_method_1_code (1 : Nat) (Option.none : Option FieldType)) ∈ gtbl := gt2 (i := 135) rfl rfl
theorem q_376 : (Cond.methodLink "FlatPlan$Searches" (3 : Nat) ({ cls := "java/lang/Object", name := "<init>", desc := "()V" } : Jvm.MethodName)) ∈ gtbl := gt2 (i := 136) rfl rfl
theorem q_377 : (Cond.classLink "FlatPlan$Searches" (9 : Nat) "FlatPlan$Plan") ∈ gtbl := gt2 (i := 137) rfl rfl
theorem q_378 : (Cond.methodLink "FlatPlan$Searches" (11 : Nat) ({ cls := "FlatPlan$Plan", name := "<init>", desc := "()V" } : Jvm.MethodName)) ∈ gtbl := gt2 (i := 138) rfl rfl
theorem q_379 : (Cond.fieldLink "FlatPlan$Searches" (12 : Nat) "FlatPlan$Searches" "plan" "LFlatPlan$Plan;") ∈ gtbl := gt2 (i := 139) rfl rfl
theorem q_380 : (Cond.fieldLink "FlatPlan" (30 : Nat) "FlatPlan$Searches" "plan" "LFlatPlan$Plan;") ∈ gtbl := gt2 (i := 140) rfl rfl
theorem q_381 : (Cond.fieldLink "FlatPlan$Searches" (22 : Nat) "FlatPlan$Searches" "now" "LFlatPlan$State;") ∈ gtbl := gt2 (i := 141) rfl rfl
theorem q_382 : (Cond.fieldLink "FlatPlan$Searches" (23 : Nat) "FlatPlan$Searches" "order" "[I") ∈ gtbl := gt2 (i := 142) rfl rfl
theorem q_383 : (Cond.fieldLink "FlatPlan$Searches" (27 : Nat) "FlatPlan$Searches" "onPage" "[I") ∈ gtbl := gt2 (i := 143) rfl rfl
theorem q_384 : (Cond.fieldLink "FlatPlan$Searches" (30 : Nat) "FlatPlan$Searches" "adMatched" "[I") ∈ gtbl := gt2 (i := 144) rfl rfl
theorem q_385 : (Cond.fieldLink "FlatPlan$Searches" (33 : Nat) "FlatPlan$Searches" "pageMatched" "[I") ∈ gtbl := gt2 (i := 145) rfl rfl
theorem q_386 : (Cond.fieldLink "FlatPlan$Searches" (36 : Nat) "FlatPlan$Searches" "reachedBy" "[I") ∈ gtbl := gt2 (i := 146) rfl rfl
theorem q_387 : (Cond.fieldLink "FlatPlan$Searches" (39 : Nat) "FlatPlan$Searches" "waiting" "[I") ∈ gtbl := gt2 (i := 147) rfl rfl
theorem q_388 : (Cond.fieldLink "FlatPlan$Searches" (42 : Nat) "FlatPlan$Searches" "colorPages" "[I") ∈ gtbl := gt2 (i := 148) rfl rfl
theorem q_389 : (Cond.fieldLink "FlatPlan$Searches" (45 : Nat) "FlatPlan$Searches" "hasColor" "[I") ∈ gtbl := gt2 (i := 149) rfl rfl
theorem q_390 : (Cond.laysFinal "FlatPlan$Searches" "FlatPlan$Searches" "plan" "LFlatPlan$Plan;") ∈ gtbl := gt2 (i := 150) rfl rfl
theorem q_392 : (Cond.laysFinal "FlatPlan$Searches" "FlatPlan$Searches" "now" "LFlatPlan$State;") ∈ gtbl := gt2 (i := 152) rfl rfl
theorem q_394 : (Cond.laysFinal "FlatPlan$Searches" "FlatPlan$Searches" "order" "[I") ∈ gtbl := gt2 (i := 154) rfl rfl
theorem q_396 : (Cond.laysFinal "FlatPlan$Searches" "FlatPlan$Searches" "onPage" "[I") ∈ gtbl := gt2 (i := 156) rfl rfl
theorem q_398 : (Cond.laysFinal "FlatPlan$Searches" "FlatPlan$Searches" "adMatched" "[I") ∈ gtbl := gt2 (i := 158) rfl rfl
theorem q_400 : (Cond.laysFinal "FlatPlan$Searches" "FlatPlan$Searches" "pageMatched" "[I") ∈ gtbl := gt2 (i := 160) rfl rfl
theorem q_402 : (Cond.laysFinal "FlatPlan$Searches" "FlatPlan$Searches" "reachedBy" "[I") ∈ gtbl := gt2 (i := 162) rfl rfl
theorem q_404 : (Cond.laysFinal "FlatPlan$Searches" "FlatPlan$Searches" "waiting" "[I") ∈ gtbl := gt2 (i := 164) rfl rfl
theorem q_406 : (Cond.laysFinal "FlatPlan$Searches" "FlatPlan$Searches" "colorPages" "[I") ∈ gtbl := gt2 (i := 166) rfl rfl
theorem q_408 : (Cond.laysFinal "FlatPlan$Searches" "FlatPlan$Searches" "hasColor" "[I") ∈ gtbl := gt2 (i := 168) rfl rfl
theorem q_411 : (Cond.classLink "FlatPlan" (35 : Nat) "FlatPlan$History") ∈ gtbl := gt2 (i := 171) rfl rfl
theorem q_412 : (Cond.instantiable "FlatPlan$History" (3 : Nat)) ∈ gtbl := gt2 (i := 172) rfl rfl
theorem q_413 : (Cond.methodLink "FlatPlan" (37 : Nat) ({ cls := "FlatPlan$History", name := "<init>", desc := "()V" } : Jvm.MethodName)) ∈ gtbl := gt2 (i := 173) rfl rfl
theorem q_414 : (Cond.instanceMethod ({ cls := "FlatPlan$History", name := "<init>", desc := "()V" } : Jvm.MethodName)) ∈ gtbl := gt2 (i := 174) rfl rfl
theorem q_415 : (Cond.code ({ cls := "FlatPlan$History", name := "<init>", desc := "()V" } : Jvm.MethodName) prog_5_method_1_code (2 : Nat) (Option.none : Option FieldType)) ∈ gtbl := gt2 (i := 175) rfl rfl
theorem q_416 : (Cond.methodLink "FlatPlan$History" (3 : Nat) ({ cls := "java/lang/Object", name := "<init>", desc := "()V" } : Jvm.MethodName)) ∈ gtbl := gt2 (i := 176) rfl rfl
theorem q_417 : (Cond.classLink "FlatPlan$History" (9 : Nat) "FlatPlan$State") ∈ gtbl := gt2 (i := 177) rfl rfl
theorem q_420 : (Cond.fieldLink "FlatPlan$History" (11 : Nat) "FlatPlan$History" "kept" "[LFlatPlan$State;") ∈ gtbl := gt2 (i := 180) rfl rfl
theorem q_421 : (Cond.fieldLink "FlatPlan$History" (18 : Nat) "FlatPlan$History" "next" "I") ∈ gtbl := gt2 (i := 181) rfl rfl
theorem q_422 : (Cond.fieldLink "FlatPlan$History" (26 : Nat) "FlatPlan$History" "number" "I") ∈ gtbl := gt2 (i := 182) rfl rfl
theorem q_423 : (Cond.fieldLink "FlatPlan" (362 : Nat) "FlatPlan$History" "number" "I") ∈ gtbl := gt2 (i := 183) rfl rfl
theorem q_424 : (Cond.laysFinal "FlatPlan$History" "FlatPlan$History" "kept" "[LFlatPlan$State;") ∈ gtbl := gt2 (i := 184) rfl rfl
theorem q_426 : (Cond.lays "FlatPlan$History" "FlatPlan$History" "next" "I") ∈ gtbl := gt2 (i := 186) rfl rfl
theorem q_428 : (Cond.lays "FlatPlan$History" "FlatPlan$History" "number" "I") ∈ gtbl := gt2 (i := 188) rfl rfl
theorem q_431 : (Cond.classLink "FlatPlan" (42 : Nat) "FlatPlan$Bytes") ∈ gtbl := gt2 (i := 191) rfl rfl
theorem q_432 : (Cond.methodLink "FlatPlan" (44 : Nat) ({ cls := "FlatPlan$Bytes", name := "<init>", desc := "(I)V" } : Jvm.MethodName)) ∈ gtbl := gt2 (i := 192) rfl rfl
theorem q_433 : (Cond.fieldLink "FlatPlan" (10 : Nat) "FlatPlan" "reader" "LFlatPlan$Reader;") ∈ gtbl := gt2 (i := 193) rfl rfl
theorem q_434 : (Cond.fieldLink "FlatPlan" (20 : Nat) "FlatPlan" "input" "LFlatPlan$Bytes;") ∈ gtbl := gt2 (i := 194) rfl rfl
theorem q_435 : (Cond.fieldLink "FlatPlan" (26 : Nat) "FlatPlan" "searches" "LFlatPlan$Searches;") ∈ gtbl := gt2 (i := 195) rfl rfl
theorem q_436 : (Cond.fieldLink "FlatPlan" (34 : Nat) "FlatPlan" "plan" "LFlatPlan$Plan;") ∈ gtbl := gt2 (i := 196) rfl rfl
theorem q_437 : (Cond.fieldLink "FlatPlan" (38 : Nat) "FlatPlan" "history" "LFlatPlan$History;") ∈ gtbl := gt2 (i := 197) rfl rfl
theorem q_438 : (Cond.fieldLink "FlatPlan" (47 : Nat) "FlatPlan" "description" "LFlatPlan$Bytes;") ∈ gtbl := gt2 (i := 198) rfl rfl
theorem q_439 : (Cond.laysFinal "FlatPlan" "FlatPlan" "reader" "LFlatPlan$Reader;") ∈ gtbl := gt2 (i := 199) rfl rfl
theorem q_441 : (Cond.laysFinal "FlatPlan" "FlatPlan" "input" "LFlatPlan$Bytes;") ∈ gtbl := gt2 (i := 201) rfl rfl
theorem q_443 : (Cond.laysFinal "FlatPlan" "FlatPlan" "searches" "LFlatPlan$Searches;") ∈ gtbl := gt2 (i := 203) rfl rfl
theorem q_445 : (Cond.laysFinal "FlatPlan" "FlatPlan" "plan" "LFlatPlan$Plan;") ∈ gtbl := gt2 (i := 205) rfl rfl
theorem q_447 : (Cond.laysFinal "FlatPlan" "FlatPlan" "history" "LFlatPlan$History;") ∈ gtbl := gt2 (i := 207) rfl rfl
theorem q_449 : (Cond.laysFinal "FlatPlan" "FlatPlan" "description" "LFlatPlan$Bytes;") ∈ gtbl := gt2 (i := 209) rfl rfl
theorem q_452 : (Cond.methodLink "FlatPlanLaw" (483 : Nat) ({ cls := "FlatPlan", name := "load", desc := "()I" } : Jvm.MethodName)) ∈ gtbl := gt2 (i := 212) rfl rfl
theorem q_453 : (Cond.instanceMethod ({ cls := "FlatPlan", name := "load", desc := "()I" } : Jvm.MethodName)) ∈ gtbl := gt2 (i := 213) rfl rfl
theorem q_454 : (Cond.selects "FlatPlan" ({ cls := "FlatPlan", name := "load", desc := "()I" } : Jvm.MethodName) ({ cls := "FlatPlan", name := "load", desc := "()I" } : Jvm.MethodName)) ∈ gtbl := gt2 (i := 214) rfl rfl
theorem q_455 : (Cond.code ({ cls := "FlatPlan", name := "load", desc := "()I" } : Jvm.MethodName) prog_1_method_4_code (2 : Nat) (Option.some FieldType.int)) ∈ gtbl := gt2 (i := 215) rfl rfl
theorem q_456 : (Cond.methodLink "FlatPlan" (57 : Nat) ({ cls := "FlatPlan$Reader", name := "readText", desc := "()I" } : Jvm.MethodName)) ∈ gtbl := gt2 (i := 216) rfl rfl
theorem q_457 : (Cond.instanceMethod ({ cls := "FlatPlan$Reader", name := "readText", desc := "()I" } : Jvm.MethodName)) ∈ gtbl := gt2 (i := 217) rfl rfl
theorem q_458 : (Cond.selects "FlatPlan$Reader" ({ cls := "FlatPlan$Reader", name := "readText", desc := "()I" } : Jvm.MethodName) ({ cls := "FlatPlan$Reader", name := "readText", desc := "()I" } : Jvm.MethodName)) ∈ gtbl := gt2 (i := 218) rfl rfl
theorem q_459 : (Cond.code ({ cls := "FlatPlan$Reader", name := "readText", desc := "()I" } : Jvm.MethodName) prog_7_method_2_code (3 : Nat) (Option.some FieldType.int)) ∈ gtbl := gt2 (i := 219) rfl rfl
theorem q_460 : (Cond.methodLink "FlatPlan$Reader" (41 : Nat) ({ cls := "FlatPlan$Plan", name := "begin", desc := "(II)V" } : Jvm.MethodName)) ∈ gtbl := gt2 (i := 220) rfl rfl
theorem q_461 : (Cond.methodLink "FlatPlan$Reader" (45 : Nat) ({ cls := "FlatPlan$Reader", name := "nextToken", desc := "()V" } : Jvm.MethodName)) ∈ gtbl := gt2 (i := 221) rfl rfl
theorem q_463 : (Cond.instanceMethod ({ cls := "FlatPlan$Reader", name := "nextToken", desc := "()V" } : Jvm.MethodName)) ∈ gtbl := gt2 (i := 223) rfl rfl
theorem q_464 : (Cond.code ({ cls := "FlatPlan$Reader", name := "nextToken", desc := "()V" } : Jvm.MethodName) prog_7_method_16_code (1 : Nat) (Option.none : Option FieldType)) ∈ gtbl := gt2 (i := 224) rfl rfl
theorem q_465 : (Cond.methodLink "FlatPlan$Reader" (198 : Nat) ({ cls := "FlatPlan$Bytes", name := "byteAt", desc := "(I)I" } : Jvm.MethodName)) ∈ gtbl := gt2 (i := 225) rfl rfl
theorem q_466 : (Cond.instanceMethod ({ cls := "FlatPlan$Bytes", name := "byteAt", desc := "(I)I" } : Jvm.MethodName)) ∈ gtbl := gt2 (i := 226) rfl rfl
theorem q_467 : (Cond.selects "FlatPlan$Bytes" ({ cls := "FlatPlan$Bytes", name := "byteAt", desc := "(I)I" } : Jvm.MethodName) ({ cls := "FlatPlan$Bytes", name := "byteAt", desc := "(I)I" } : Jvm.MethodName)) ∈ gtbl := gt2 (i := 227) rfl rfl
theorem q_468 : (Cond.code ({ cls := "FlatPlan$Bytes", name := "byteAt", desc := "(I)I" } : Jvm.MethodName) prog_3_method_5_code (2 : Nat) (Option.some FieldType.int)) ∈ gtbl := gt2 (i := 228) rfl rfl
theorem q_469 : (Cond.methodLink "FlatPlan$Reader" (202 : Nat) ({ cls := "FlatPlan$Reader", name := "isLetter", desc := "(I)Z" } : Jvm.MethodName)) ∈ gtbl := gt2 (i := 229) rfl rfl
theorem q_470 : (Cond.static ({ cls := "FlatPlan$Reader", name := "isLetter", desc := "(I)Z" } : Jvm.MethodName)) ∈ gtbl := gt2 (i := 230) rfl rfl
theorem q_471 : (Cond.code ({ cls := "FlatPlan$Reader", name := "isLetter", desc := "(I)Z" } : Jvm.MethodName) prog_7_method_17_code (1 : Nat) (Option.some FieldType.boolean)) ∈ gtbl := gt2 (i := 231) rfl rfl
theorem q_472 : (Cond.methodLink "FlatPlan$Reader" (205 : Nat) ({ cls := "FlatPlan$Reader", name := "isDigit", desc := "(I)Z" } : Jvm.MethodName)) ∈ gtbl := gt2 (i := 232) rfl rfl
theorem q_473 : (Cond.static ({ cls := "FlatPlan$Reader", name := "isDigit", desc := "(I)Z" } : Jvm.MethodName)) ∈ gtbl := gt2 (i := 233) rfl rfl
theorem q_474 : (Cond.code ({ cls := "FlatPlan$Reader", name := "isDigit", desc := "(I)Z" } : Jvm.MethodName) prog_7_method_18_code (1 : Nat) (Option.some FieldType.boolean)) ∈ gtbl := gt2 (i := 234) rfl rfl
theorem q_476 : (Cond.methodLink "FlatPlan$Reader" (50 : Nat) ({ cls := "FlatPlan$Reader", name := "isWord", desc := "(Ljava/lang/String;)Z" } : Jvm.MethodName)) ∈ gtbl := gt2 (i := 236) rfl rfl
theorem q_478 : (Cond.instanceMethod ({ cls := "FlatPlan$Reader", name := "isWord", desc := "(Ljava/lang/String;)Z" } : Jvm.MethodName)) ∈ gtbl := gt2 (i := 238) rfl rfl
theorem q_479 : (Cond.code ({ cls := "FlatPlan$Reader", name := "isWord", desc := "(Ljava/lang/String;)Z" } : Jvm.MethodName) prog_7_method_19_code (3 : Nat) (Option.some FieldType.boolean)) ∈ gtbl := gt2 (i := 239) rfl rfl
theorem q_480 : (Cond.methodLink "FlatPlan$Reader" (208 : Nat) ({ cls := "java/lang/String", name := "length", desc := "()I" } : Jvm.MethodName)) ∈ gtbl := gt3 (i := 0) rfl rfl
theorem q_481 : (Cond.instanceMethod ({ cls := "java/lang/String", name := "length", desc := "()I" } : Jvm.MethodName)) ∈ gtbl := gt3 (i := 1) rfl rfl
theorem q_482 : (Cond.selects "java/lang/String" ({ cls := "java/lang/String", name := "length", desc := "()I" } : Jvm.MethodName) ({ cls := "java/lang/String", name := "length", desc := "()I" } : Jvm.MethodName)) ∈ gtbl := gt3 (i := 2) rfl rfl
theorem q_483 : (Cond.code ({ cls := "java/lang/String", name := "length", desc := "()I" } : Jvm.MethodName) prog_33_method_54_code (1 : Nat) (Option.some FieldType.int)) ∈ gtbl := gt3 (i := 3) rfl rfl
theorem q_484 : (Cond.methodLink "java/lang/String" (335 : Nat) ({ cls := "java/lang/String", name := "coder", desc := "()B" } : Jvm.MethodName)) ∈ gtbl := gt3 (i := 4) rfl rfl
theorem q_485 : (Cond.instanceMethod ({ cls := "java/lang/String", name := "coder", desc := "()B" } : Jvm.MethodName)) ∈ gtbl := gt3 (i := 5) rfl rfl
theorem q_486 : (Cond.selects "java/lang/String" ({ cls := "java/lang/String", name := "coder", desc := "()B" } : Jvm.MethodName) ({ cls := "java/lang/String", name := "coder", desc := "()B" } : Jvm.MethodName)) ∈ gtbl := gt3 (i := 6) rfl rfl
theorem q_487 : (Cond.code ({ cls := "java/lang/String", name := "coder", desc := "()B" } : Jvm.MethodName) prog_33_method_152_code (1 : Nat) (Option.some FieldType.byte)) ∈ gtbl := gt3 (i := 7) rfl rfl
theorem q_488 : (Cond.fieldLink "java/lang/String" (38 : Nat) "java/lang/String" "COMPACT_STRINGS" "Z") ∈ gtbl := gt3 (i := 8) rfl rfl
theorem q_490 : (Cond.methodLink "FlatPlan$Reader" (212 : Nat) ({ cls := "java/lang/String", name := "charAt", desc := "(I)C" } : Jvm.MethodName)) ∈ gtbl := gt3 (i := 10) rfl rfl
theorem q_491 : (Cond.instanceMethod ({ cls := "java/lang/String", name := "charAt", desc := "(I)C" } : Jvm.MethodName)) ∈ gtbl := gt3 (i := 11) rfl rfl
theorem q_492 : (Cond.selects "java/lang/String" ({ cls := "java/lang/String", name := "charAt", desc := "(I)C" } : Jvm.MethodName) ({ cls := "java/lang/String", name := "charAt", desc := "(I)C" } : Jvm.MethodName)) ∈ gtbl := gt3 (i := 12) rfl rfl
theorem q_493 : (Cond.code ({ cls := "java/lang/String", name := "charAt", desc := "(I)C" } : Jvm.MethodName) prog_33_method_56_code (2 : Nat) (Option.some FieldType.char)) ∈ gtbl := gt3 (i := 13) rfl rfl
theorem q_494 : (Cond.methodLink "java/lang/String" (492 : Nat) ({ cls := "java/lang/String", name := "isLatin1", desc := "()Z" } : Jvm.MethodName)) ∈ gtbl := gt3 (i := 14) rfl rfl
theorem q_495 : (Cond.instanceMethod ({ cls := "java/lang/String", name := "isLatin1", desc := "()Z" } : Jvm.MethodName)) ∈ gtbl := gt3 (i := 15) rfl rfl
theorem q_496 : (Cond.selects "java/lang/String" ({ cls := "java/lang/String", name := "isLatin1", desc := "()Z" } : Jvm.MethodName) ({ cls := "java/lang/String", name := "isLatin1", desc := "()Z" } : Jvm.MethodName)) ∈ gtbl := gt3 (i := 16) rfl rfl
theorem q_497 : (Cond.code ({ cls := "java/lang/String", name := "isLatin1", desc := "()Z" } : Jvm.MethodName) prog_33_method_154_code (1 : Nat) (Option.some FieldType.boolean)) ∈ gtbl := gt3 (i := 17) rfl rfl
theorem q_498 : (Cond.methodLink "java/lang/String" (495 : Nat) ({ cls := "java/lang/StringLatin1", name := "charAt", desc := "([BI)C" } : Jvm.MethodName)) ∈ gtbl := gt3 (i := 18) rfl rfl
theorem q_499 : (Cond.static ({ cls := "java/lang/StringLatin1", name := "charAt", desc := "([BI)C" } : Jvm.MethodName)) ∈ gtbl := gt3 (i := 19) rfl rfl
theorem q_500 : (Cond.code ({ cls := "java/lang/StringLatin1", name := "charAt", desc := "([BI)C" } : Jvm.MethodName) prog_35_method_2_code (2 : Nat) (Option.some FieldType.char)) ∈ gtbl := gt3 (i := 20) rfl rfl
theorem q_501 : (Cond.methodLink "java/lang/StringLatin1" (9 : Nat) ({ cls := "java/lang/String", name := "checkIndex", desc := "(II)V" } : Jvm.MethodName)) ∈ gtbl := gt3 (i := 21) rfl rfl
theorem q_502 : (Cond.static ({ cls := "java/lang/String", name := "checkIndex", desc := "(II)V" } : Jvm.MethodName)) ∈ gtbl := gt3 (i := 22) rfl rfl
theorem q_503 : (Cond.code ({ cls := "java/lang/String", name := "checkIndex", desc := "(II)V" } : Jvm.MethodName) prog_33_method_155_code (2 : Nat) (Option.none : Option FieldType)) ∈ gtbl := gt3 (i := 23) rfl rfl
theorem q_504 : (Cond.fieldLink "java/lang/String" (1053 : Nat) "jdk/internal/util/Preconditions" "SIOOBE_FORMATTER" "Ljava/util/function/BiFunction;") ∈ gtbl := gt3 (i := 24) rfl rfl
theorem q_506 : (Cond.methodLink "java/lang/String" (1059 : Nat) ({ cls := "jdk/internal/util/Preconditions", name := "checkIndex", desc := "(IILjava/util/function/BiFunction;)I" } : Jvm.MethodName)) ∈ gtbl := gt3 (i := 26) rfl rfl
theorem q_507 : (Cond.static ({ cls := "jdk/internal/util/Preconditions", name := "checkIndex", desc := "(IILjava/util/function/BiFunction;)I" } : Jvm.MethodName)) ∈ gtbl := gt3 (i := 27) rfl rfl
theorem q_508 : (Cond.code ({ cls := "jdk/internal/util/Preconditions", name := "checkIndex", desc := "(IILjava/util/function/BiFunction;)I" } : Jvm.MethodName) prog_53_method_11_code (3 : Nat) (Option.some FieldType.int)) ∈ gtbl := gt3 (i := 28) rfl rfl
theorem q_509 : (Cond.methodLink "java/lang/String" (498 : Nat) ({ cls := "java/lang/StringUTF16", name := "charAt", desc := "([BI)C" } : Jvm.MethodName)) ∈ gtbl := gt3 (i := 29) rfl rfl
theorem q_510 : (Cond.static ({ cls := "java/lang/StringUTF16", name := "charAt", desc := "([BI)C" } : Jvm.MethodName)) ∈ gtbl := gt3 (i := 30) rfl rfl
theorem q_511 : (Cond.code ({ cls := "java/lang/StringUTF16", name := "charAt", desc := "([BI)C" } : Jvm.MethodName) prog_36_method_83_code (2 : Nat) (Option.some FieldType.char)) ∈ gtbl := gt3 (i := 31) rfl rfl
theorem q_512 : (Cond.methodLink "java/lang/StringUTF16" (67 : Nat) ({ cls := "java/lang/StringUTF16", name := "checkIndex", desc := "(I[B)V" } : Jvm.MethodName)) ∈ gtbl := gt3 (i := 32) rfl rfl
theorem q_513 : (Cond.static ({ cls := "java/lang/StringUTF16", name := "checkIndex", desc := "(I[B)V" } : Jvm.MethodName)) ∈ gtbl := gt3 (i := 33) rfl rfl
theorem q_514 : (Cond.code ({ cls := "java/lang/StringUTF16", name := "checkIndex", desc := "(I[B)V" } : Jvm.MethodName) prog_36_method_91_code (2 : Nat) (Option.none : Option FieldType)) ∈ gtbl := gt3 (i := 34) rfl rfl
theorem q_515 : (Cond.methodLink "java/lang/StringUTF16" (48 : Nat) ({ cls := "java/lang/StringUTF16", name := "length", desc := "([B)I" } : Jvm.MethodName)) ∈ gtbl := gt3 (i := 35) rfl rfl
theorem q_516 : (Cond.static ({ cls := "java/lang/StringUTF16", name := "length", desc := "([B)I" } : Jvm.MethodName)) ∈ gtbl := gt3 (i := 36) rfl rfl
theorem q_517 : (Cond.code ({ cls := "java/lang/StringUTF16", name := "length", desc := "([B)I" } : Jvm.MethodName) prog_36_method_6_code (1 : Nat) (Option.some FieldType.int)) ∈ gtbl := gt3 (i := 37) rfl rfl
theorem q_518 : (Cond.methodLink "java/lang/StringUTF16" (414 : Nat) ({ cls := "java/lang/String", name := "checkIndex", desc := "(II)V" } : Jvm.MethodName)) ∈ gtbl := gt3 (i := 38) rfl rfl
theorem q_519 : (Cond.methodLink "java/lang/StringUTF16" (71 : Nat) ({ cls := "java/lang/StringUTF16", name := "getChar", desc := "([BI)C" } : Jvm.MethodName)) ∈ gtbl := gt3 (i := 39) rfl rfl
theorem q_520 : (Cond.static ({ cls := "java/lang/StringUTF16", name := "getChar", desc := "([BI)C" } : Jvm.MethodName)) ∈ gtbl := gt3 (i := 40) rfl rfl
theorem q_521 : (Cond.code ({ cls := "java/lang/StringUTF16", name := "getChar", desc := "([BI)C" } : Jvm.MethodName) prog_36_method_5_code (2 : Nat) (Option.some FieldType.char)) ∈ gtbl := gt3 (i := 41) rfl rfl
theorem q_522 : (Cond.fieldLink "java/lang/StringUTF16" (44 : Nat) "java/lang/StringUTF16" "$assertionsDisabled" "Z") ∈ gtbl := gt3 (i := 42) rfl rfl
theorem q_524 : (Cond.fieldLink "java/lang/StringUTF16" (59 : Nat) "java/lang/StringUTF16" "HI_BYTE_SHIFT" "I") ∈ gtbl := gt3 (i := 44) rfl rfl
theorem q_526 : (Cond.fieldLink "java/lang/StringUTF16" (63 : Nat) "java/lang/StringUTF16" "LO_BYTE_SHIFT" "I") ∈ gtbl := gt3 (i := 46) rfl rfl
theorem q_528 : (Cond.methodLink "FlatPlan$Reader" (54 : Nat) ({ cls := "FlatPlan$Reader", name := "readPlan", desc := "()Z" } : Jvm.MethodName)) ∈ gtbl := gt3 (i := 48) rfl rfl
theorem q_530 : (Cond.instanceMethod ({ cls := "FlatPlan$Reader", name := "readPlan", desc := "()Z" } : Jvm.MethodName)) ∈ gtbl := gt3 (i := 50) rfl rfl
theorem q_531 : (Cond.code ({ cls := "FlatPlan$Reader", name := "readPlan", desc := "()Z" } : Jvm.MethodName) prog_7_method_3_code (1 : Nat) (Option.some FieldType.boolean)) ∈ gtbl := gt3 (i := 51) rfl rfl
theorem q_532 : (Cond.methodLink "FlatPlan$Reader" (64 : Nat) ({ cls := "FlatPlan$Reader", name := "readNumber", desc := "(III)Z" } : Jvm.MethodName)) ∈ gtbl := gt3 (i := 52) rfl rfl
theorem q_534 : (Cond.instanceMethod ({ cls := "FlatPlan$Reader", name := "readNumber", desc := "(III)Z" } : Jvm.MethodName)) ∈ gtbl := gt3 (i := 54) rfl rfl
theorem q_535 : (Cond.code ({ cls := "FlatPlan$Reader", name := "readNumber", desc := "(III)Z" } : Jvm.MethodName) prog_7_method_13_code (5 : Nat) (Option.some FieldType.boolean)) ∈ gtbl := gt3 (i := 55) rfl rfl
theorem q_536 : (Cond.methodLink "FlatPlan$Reader" (68 : Nat) ({ cls := "FlatPlan$Reader", name := "fail", desc := "(I)Z" } : Jvm.MethodName)) ∈ gtbl := gt3 (i := 56) rfl rfl
theorem q_538 : (Cond.instanceMethod ({ cls := "FlatPlan$Reader", name := "fail", desc := "(I)Z" } : Jvm.MethodName)) ∈ gtbl := gt3 (i := 58) rfl rfl
theorem q_539 : (Cond.code ({ cls := "FlatPlan$Reader", name := "fail", desc := "(I)Z" } : Jvm.MethodName) prog_7_method_15_code (2 : Nat) (Option.some FieldType.boolean)) ∈ gtbl := gt3 (i := 59) rfl rfl
theorem q_540 : (Cond.methodLink "FlatPlan$Reader" (188 : Nat) ({ cls := "FlatPlan$Reader", name := "numberRead", desc := "()I" } : Jvm.MethodName)) ∈ gtbl := gt3 (i := 60) rfl rfl
theorem q_542 : (Cond.instanceMethod ({ cls := "FlatPlan$Reader", name := "numberRead", desc := "()I" } : Jvm.MethodName)) ∈ gtbl := gt3 (i := 62) rfl rfl
theorem q_543 : (Cond.code ({ cls := "FlatPlan$Reader", name := "numberRead", desc := "()I" } : Jvm.MethodName) prog_7_method_20_code (3 : Nat) (Option.some FieldType.int)) ∈ gtbl := gt3 (i := 63) rfl rfl
theorem q_544 : (Cond.methodLink "FlatPlan$Reader" (72 : Nat) ({ cls := "FlatPlan$Reader", name := "readSemicolon", desc := "()Z" } : Jvm.MethodName)) ∈ gtbl := gt3 (i := 64) rfl rfl
theorem q_546 : (Cond.instanceMethod ({ cls := "FlatPlan$Reader", name := "readSemicolon", desc := "()Z" } : Jvm.MethodName)) ∈ gtbl := gt3 (i := 66) rfl rfl
theorem q_547 : (Cond.code ({ cls := "FlatPlan$Reader", name := "readSemicolon", desc := "()Z" } : Jvm.MethodName) prog_7_method_14_code (1 : Nat) (Option.some FieldType.boolean)) ∈ gtbl := gt3 (i := 67) rfl rfl
theorem q_548 : (Cond.methodLink "FlatPlan$Reader" (61 : Nat) ({ cls := "FlatPlan$Reader", name := "readStatement", desc := "()Z" } : Jvm.MethodName)) ∈ gtbl := gt3 (i := 68) rfl rfl
theorem q_550 : (Cond.instanceMethod ({ cls := "FlatPlan$Reader", name := "readStatement", desc := "()Z" } : Jvm.MethodName)) ∈ gtbl := gt3 (i := 70) rfl rfl
theorem q_551 : (Cond.code ({ cls := "FlatPlan$Reader", name := "readStatement", desc := "()Z" } : Jvm.MethodName) prog_7_method_4_code (1 : Nat) (Option.some FieldType.boolean)) ∈ gtbl := gt3 (i := 71) rfl rfl
theorem q_553 : (Cond.methodLink "FlatPlan$Reader" (77 : Nat) ({ cls := "FlatPlan$Reader", name := "readColor", desc := "()Z" } : Jvm.MethodName)) ∈ gtbl := gt3 (i := 73) rfl rfl
theorem q_555 : (Cond.instanceMethod ({ cls := "FlatPlan$Reader", name := "readColor", desc := "()Z" } : Jvm.MethodName)) ∈ gtbl := gt3 (i := 75) rfl rfl
theorem q_556 : (Cond.code ({ cls := "FlatPlan$Reader", name := "readColor", desc := "()Z" } : Jvm.MethodName) prog_7_method_5_code (1 : Nat) (Option.some FieldType.boolean)) ∈ gtbl := gt3 (i := 76) rfl rfl
theorem q_558 : (Cond.methodLink "FlatPlan$Reader" (82 : Nat) ({ cls := "FlatPlan$Reader", name := "readAd", desc := "()Z" } : Jvm.MethodName)) ∈ gtbl := gt3 (i := 78) rfl rfl
theorem q_560 : (Cond.instanceMethod ({ cls := "FlatPlan$Reader", name := "readAd", desc := "()Z" } : Jvm.MethodName)) ∈ gtbl := gt3 (i := 80) rfl rfl
theorem q_561 : (Cond.code ({ cls := "FlatPlan$Reader", name := "readAd", desc := "()Z" } : Jvm.MethodName) prog_7_method_6_code (3 : Nat) (Option.some FieldType.boolean)) ∈ gtbl := gt3 (i := 81) rfl rfl
theorem q_562 : (Cond.methodLink "FlatPlan$Reader" (135 : Nat) ({ cls := "FlatPlan$Reader", name := "firstIsSize", desc := "()Z" } : Jvm.MethodName)) ∈ gtbl := gt3 (i := 82) rfl rfl
theorem q_564 : (Cond.instanceMethod ({ cls := "FlatPlan$Reader", name := "firstIsSize", desc := "()Z" } : Jvm.MethodName)) ∈ gtbl := gt3 (i := 84) rfl rfl
theorem q_565 : (Cond.code ({ cls := "FlatPlan$Reader", name := "firstIsSize", desc := "()Z" } : Jvm.MethodName) prog_7_method_12_code (1 : Nat) (Option.some FieldType.boolean)) ∈ gtbl := gt3 (i := 85) rfl rfl
theorem q_567 : (Cond.static ({ cls := "FlatPlan", name := "isSize", desc := "(I)Z" } : Jvm.MethodName)) ∈ gtbl := gt3 (i := 87) rfl rfl
theorem q_568 : (Cond.code ({ cls := "FlatPlan", name := "isSize", desc := "(I)Z" } : Jvm.MethodName) prog_1_method_69_code (1 : Nat) (Option.some FieldType.boolean)) ∈ gtbl := gt3 (i := 88) rfl rfl
theorem q_569 : (Cond.methodLink "FlatPlan$Reader" (138 : Nat) ({ cls := "FlatPlan$Ads", name := "add", desc := "(IIII)I" } : Jvm.MethodName)) ∈ gtbl := gt3 (i := 89) rfl rfl
theorem q_570 : (Cond.instanceMethod ({ cls := "FlatPlan$Ads", name := "add", desc := "(IIII)I" } : Jvm.MethodName)) ∈ gtbl := gt3 (i := 90) rfl rfl
theorem q_571 : (Cond.selects "FlatPlan$Ads" ({ cls := "FlatPlan$Ads", name := "add", desc := "(IIII)I" } : Jvm.MethodName) ({ cls := "FlatPlan$Ads", name := "add", desc := "(IIII)I" } : Jvm.MethodName)) ∈ gtbl := gt3 (i := 91) rfl rfl
theorem q_572 : (Cond.code ({ cls := "FlatPlan$Ads", name := "add", desc := "(IIII)I" } : Jvm.MethodName) prog_2_method_2_code (6 : Nat) (Option.some FieldType.int)) ∈ gtbl := gt3 (i := 92) rfl rfl
theorem q_574 : (Cond.methodLink "FlatPlan$Reader" (87 : Nat) ({ cls := "FlatPlan$Reader", name := "readStory", desc := "()Z" } : Jvm.MethodName)) ∈ gtbl := gt3 (i := 94) rfl rfl
theorem q_576 : (Cond.instanceMethod ({ cls := "FlatPlan$Reader", name := "readStory", desc := "()Z" } : Jvm.MethodName)) ∈ gtbl := gt3 (i := 96) rfl rfl
theorem q_577 : (Cond.code ({ cls := "FlatPlan$Reader", name := "readStory", desc := "()Z" } : Jvm.MethodName) prog_7_method_7_code (1 : Nat) (Option.some FieldType.boolean)) ∈ gtbl := gt3 (i := 97) rfl rfl
theorem q_578 : (Cond.methodLink "FlatPlan$Reader" (153 : Nat) ({ cls := "FlatPlan$Stories", name := "add", desc := "(IIII)V" } : Jvm.MethodName)) ∈ gtbl := gt3 (i := 98) rfl rfl
theorem q_579 : (Cond.instanceMethod ({ cls := "FlatPlan$Stories", name := "add", desc := "(IIII)V" } : Jvm.MethodName)) ∈ gtbl := gt3 (i := 99) rfl rfl
theorem q_580 : (Cond.selects "FlatPlan$Stories" ({ cls := "FlatPlan$Stories", name := "add", desc := "(IIII)V" } : Jvm.MethodName) ({ cls := "FlatPlan$Stories", name := "add", desc := "(IIII)V" } : Jvm.MethodName)) ∈ gtbl := gt3 (i := 100) rfl rfl
theorem q_581 : (Cond.code ({ cls := "FlatPlan$Stories", name := "add", desc := "(IIII)V" } : Jvm.MethodName) prog_11_method_2_code (5 : Nat) (Option.none : Option FieldType)) ∈ gtbl := gt3 (i := 101) rfl rfl
theorem q_583 : (Cond.methodLink "FlatPlan$Reader" (92 : Nat) ({ cls := "FlatPlan$Reader", name := "readStandby", desc := "()Z" } : Jvm.MethodName)) ∈ gtbl := gt3 (i := 103) rfl rfl
theorem q_585 : (Cond.instanceMethod ({ cls := "FlatPlan$Reader", name := "readStandby", desc := "()Z" } : Jvm.MethodName)) ∈ gtbl := gt3 (i := 105) rfl rfl
theorem q_586 : (Cond.code ({ cls := "FlatPlan$Reader", name := "readStandby", desc := "()Z" } : Jvm.MethodName) prog_7_method_8_code (1 : Nat) (Option.some FieldType.boolean)) ∈ gtbl := gt3 (i := 106) rfl rfl
theorem q_587 : (Cond.methodLink "FlatPlan$Reader" (163 : Nat) ({ cls := "FlatPlan$Standbys", name := "add", desc := "(I)V" } : Jvm.MethodName)) ∈ gtbl := gt3 (i := 107) rfl rfl
theorem q_588 : (Cond.instanceMethod ({ cls := "FlatPlan$Standbys", name := "add", desc := "(I)V" } : Jvm.MethodName)) ∈ gtbl := gt3 (i := 108) rfl rfl
theorem q_589 : (Cond.selects "FlatPlan$Standbys" ({ cls := "FlatPlan$Standbys", name := "add", desc := "(I)V" } : Jvm.MethodName) ({ cls := "FlatPlan$Standbys", name := "add", desc := "(I)V" } : Jvm.MethodName)) ∈ gtbl := gt3 (i := 109) rfl rfl
theorem q_590 : (Cond.code ({ cls := "FlatPlan$Standbys", name := "add", desc := "(I)V" } : Jvm.MethodName) prog_9_method_2_code (2 : Nat) (Option.none : Option FieldType)) ∈ gtbl := gt3 (i := 110) rfl rfl
theorem q_592 : (Cond.methodLink "FlatPlan$Reader" (97 : Nat) ({ cls := "FlatPlan$Reader", name := "readClose", desc := "()Z" } : Jvm.MethodName)) ∈ gtbl := gt3 (i := 112) rfl rfl
theorem q_594 : (Cond.instanceMethod ({ cls := "FlatPlan$Reader", name := "readClose", desc := "()Z" } : Jvm.MethodName)) ∈ gtbl := gt3 (i := 114) rfl rfl
theorem q_595 : (Cond.code ({ cls := "FlatPlan$Reader", name := "readClose", desc := "()Z" } : Jvm.MethodName) prog_7_method_9_code (1 : Nat) (Option.some FieldType.boolean)) ∈ gtbl := gt3 (i := 115) rfl rfl
theorem q_597 : (Cond.methodLink "FlatPlan$Reader" (102 : Nat) ({ cls := "FlatPlan$Reader", name := "readPut", desc := "()Z" } : Jvm.MethodName)) ∈ gtbl := gt3 (i := 117) rfl rfl
theorem q_599 : (Cond.instanceMethod ({ cls := "FlatPlan$Reader", name := "readPut", desc := "()Z" } : Jvm.MethodName)) ∈ gtbl := gt3 (i := 119) rfl rfl
theorem q_600 : (Cond.code ({ cls := "FlatPlan$Reader", name := "readPut", desc := "()Z" } : Jvm.MethodName) prog_7_method_10_code (2 : Nat) (Option.some FieldType.boolean)) ∈ gtbl := gt3 (i := 120) rfl rfl
theorem q_601 : (Cond.methodLink "FlatPlan$Reader" (174 : Nat) ({ cls := "FlatPlan$Plan", name := "adReason", desc := "(II)I" } : Jvm.MethodName)) ∈ gtbl := gt3 (i := 121) rfl rfl
theorem q_602 : (Cond.instanceMethod ({ cls := "FlatPlan$Plan", name := "adReason", desc := "(II)I" } : Jvm.MethodName)) ∈ gtbl := gt3 (i := 122) rfl rfl
theorem q_603 : (Cond.selects "FlatPlan$Plan" ({ cls := "FlatPlan$Plan", name := "adReason", desc := "(II)I" } : Jvm.MethodName) ({ cls := "FlatPlan$Plan", name := "adReason", desc := "(II)I" } : Jvm.MethodName)) ∈ gtbl := gt3 (i := 123) rfl rfl
theorem q_604 : (Cond.code ({ cls := "FlatPlan$Plan", name := "adReason", desc := "(II)I" } : Jvm.MethodName) prog_6_method_13_code (3 : Nat) (Option.some FieldType.int)) ∈ gtbl := gt3 (i := 124) rfl rfl
theorem q_605 : (Cond.methodLink "FlatPlan$Plan" (135 : Nat) ({ cls := "FlatPlan$Plan", name := "isPrinted", desc := "(I)Z" } : Jvm.MethodName)) ∈ gtbl := gt3 (i := 125) rfl rfl
theorem q_606 : (Cond.instanceMethod ({ cls := "FlatPlan$Plan", name := "isPrinted", desc := "(I)Z" } : Jvm.MethodName)) ∈ gtbl := gt3 (i := 126) rfl rfl
theorem q_607 : (Cond.selects "FlatPlan$Plan" ({ cls := "FlatPlan$Plan", name := "isPrinted", desc := "(I)Z" } : Jvm.MethodName) ({ cls := "FlatPlan$Plan", name := "isPrinted", desc := "(I)Z" } : Jvm.MethodName)) ∈ gtbl := gt3 (i := 127) rfl rfl
theorem q_608 : (Cond.code ({ cls := "FlatPlan$Plan", name := "isPrinted", desc := "(I)Z" } : Jvm.MethodName) prog_6_method_8_code (2 : Nat) (Option.some FieldType.boolean)) ∈ gtbl := gt3 (i := 128) rfl rfl
theorem q_609 : (Cond.methodLink "FlatPlan$Plan" (149 : Nat) ({ cls := "FlatPlan$Plan", name := "roomFor", desc := "(II)I" } : Jvm.MethodName)) ∈ gtbl := gt3 (i := 129) rfl rfl
theorem q_610 : (Cond.instanceMethod ({ cls := "FlatPlan$Plan", name := "roomFor", desc := "(II)I" } : Jvm.MethodName)) ∈ gtbl := gt3 (i := 130) rfl rfl
theorem q_611 : (Cond.selects "FlatPlan$Plan" ({ cls := "FlatPlan$Plan", name := "roomFor", desc := "(II)I" } : Jvm.MethodName) ({ cls := "FlatPlan$Plan", name := "roomFor", desc := "(II)I" } : Jvm.MethodName)) ∈ gtbl := gt3 (i := 131) rfl rfl
theorem q_612 : (Cond.code ({ cls := "FlatPlan$Plan", name := "roomFor", desc := "(II)I" } : Jvm.MethodName) prog_6_method_14_code (3 : Nat) (Option.some FieldType.int)) ∈ gtbl := gt3 (i := 132) rfl rfl
theorem q_613 : (Cond.methodLink "FlatPlan$Plan" (139 : Nat) ({ cls := "FlatPlan$Plan", name := "lacksColor", desc := "(II)Z" } : Jvm.MethodName)) ∈ gtbl := gt3 (i := 133) rfl rfl
theorem q_615 : (Cond.instanceMethod ({ cls := "FlatPlan$Plan", name := "lacksColor", desc := "(II)Z" } : Jvm.MethodName)) ∈ gtbl := gt3 (i := 135) rfl rfl
theorem q_616 : (Cond.code ({ cls := "FlatPlan$Plan", name := "lacksColor", desc := "(II)Z" } : Jvm.MethodName) prog_6_method_12_code (3 : Nat) (Option.some FieldType.boolean)) ∈ gtbl := gt3 (i := 136) rfl rfl
theorem q_617 : (Cond.methodLink "FlatPlan$Plan" (146 : Nat) ({ cls := "FlatPlan$Plan", name := "isWrongSide", desc := "(II)Z" } : Jvm.MethodName)) ∈ gtbl := gt3 (i := 137) rfl rfl
theorem q_618 : (Cond.static ({ cls := "FlatPlan$Plan", name := "isWrongSide", desc := "(II)Z" } : Jvm.MethodName)) ∈ gtbl := gt3 (i := 138) rfl rfl
theorem q_619 : (Cond.code ({ cls := "FlatPlan$Plan", name := "isWrongSide", desc := "(II)Z" } : Jvm.MethodName) prog_6_method_10_code (2 : Nat) (Option.some FieldType.boolean)) ∈ gtbl := gt3 (i := 139) rfl rfl
theorem q_620 : (Cond.methodLink "FlatPlan$Plan" (152 : Nat) ({ cls := "FlatPlan$Plan", name := "meetsRival", desc := "(II)Z" } : Jvm.MethodName)) ∈ gtbl := gt3 (i := 140) rfl rfl
theorem q_622 : (Cond.instanceMethod ({ cls := "FlatPlan$Plan", name := "meetsRival", desc := "(II)Z" } : Jvm.MethodName)) ∈ gtbl := gt3 (i := 142) rfl rfl
theorem q_623 : (Cond.code ({ cls := "FlatPlan$Plan", name := "meetsRival", desc := "(II)Z" } : Jvm.MethodName) prog_6_method_15_code (6 : Nat) (Option.some FieldType.boolean)) ∈ gtbl := gt3 (i := 143) rfl rfl
theorem q_624 : (Cond.methodLink "FlatPlan$Reader" (178 : Nat) ({ cls := "FlatPlan$Plan", name := "recount", desc := "()V" } : Jvm.MethodName)) ∈ gtbl := gt3 (i := 144) rfl rfl
theorem q_626 : (Cond.methodLink "FlatPlan$Reader" (107 : Nat) ({ cls := "FlatPlan$Reader", name := "readLay", desc := "()Z" } : Jvm.MethodName)) ∈ gtbl := gt3 (i := 146) rfl rfl
theorem q_628 : (Cond.instanceMethod ({ cls := "FlatPlan$Reader", name := "readLay", desc := "()Z" } : Jvm.MethodName)) ∈ gtbl := gt3 (i := 148) rfl rfl
theorem q_629 : (Cond.code ({ cls := "FlatPlan$Reader", name := "readLay", desc := "()Z" } : Jvm.MethodName) prog_7_method_11_code (2 : Nat) (Option.some FieldType.boolean)) ∈ gtbl := gt3 (i := 149) rfl rfl
theorem q_630 : (Cond.methodLink "FlatPlan$Reader" (182 : Nat) ({ cls := "FlatPlan$Plan", name := "layReason", desc := "(II)I" } : Jvm.MethodName)) ∈ gtbl := gt3 (i := 150) rfl rfl
theorem q_631 : (Cond.instanceMethod ({ cls := "FlatPlan$Plan", name := "layReason", desc := "(II)I" } : Jvm.MethodName)) ∈ gtbl := gt3 (i := 151) rfl rfl
theorem q_632 : (Cond.selects "FlatPlan$Plan" ({ cls := "FlatPlan$Plan", name := "layReason", desc := "(II)I" } : Jvm.MethodName) ({ cls := "FlatPlan$Plan", name := "layReason", desc := "(II)I" } : Jvm.MethodName)) ∈ gtbl := gt3 (i := 152) rfl rfl
theorem q_633 : (Cond.code ({ cls := "FlatPlan$Plan", name := "layReason", desc := "(II)I" } : Jvm.MethodName) prog_6_method_16_code (6 : Nat) (Option.some FieldType.int)) ∈ gtbl := gt3 (i := 153) rfl rfl
theorem q_634 : (Cond.methodLink "FlatPlan$Plan" (156 : Nat) ({ cls := "FlatPlan$Plan", name := "pageReason", desc := "(II)I" } : Jvm.MethodName)) ∈ gtbl := gt3 (i := 154) rfl rfl
theorem q_636 : (Cond.instanceMethod ({ cls := "FlatPlan$Plan", name := "pageReason", desc := "(II)I" } : Jvm.MethodName)) ∈ gtbl := gt3 (i := 156) rfl rfl
theorem q_637 : (Cond.code ({ cls := "FlatPlan$Plan", name := "pageReason", desc := "(II)I" } : Jvm.MethodName) prog_6_method_17_code (3 : Nat) (Option.some FieldType.int)) ∈ gtbl := gt3 (i := 157) rfl rfl
theorem q_638 : (Cond.methodLink "FlatPlan$Plan" (159 : Nat) ({ cls := "FlatPlan$Plan", name := "lowerReason", desc := "(II)I" } : Jvm.MethodName)) ∈ gtbl := gt3 (i := 158) rfl rfl
theorem q_639 : (Cond.static ({ cls := "FlatPlan$Plan", name := "lowerReason", desc := "(II)I" } : Jvm.MethodName)) ∈ gtbl := gt3 (i := 159) rfl rfl
theorem q_640 : (Cond.code ({ cls := "FlatPlan$Plan", name := "lowerReason", desc := "(II)I" } : Jvm.MethodName) prog_6_method_18_code (2 : Nat) (Option.some FieldType.int)) ∈ gtbl := gt3 (i := 160) rfl rfl
theorem q_641 : (Cond.methodLink "FlatPlan" (70 : Nat) ({ cls := "FlatPlan$Plan", name := "become", desc := "(LFlatPlan$State;)V" } : Jvm.MethodName)) ∈ gtbl := gt3 (i := 161) rfl rfl
theorem q_642 : (Cond.instanceMethod ({ cls := "FlatPlan$Plan", name := "become", desc := "(LFlatPlan$State;)V" } : Jvm.MethodName)) ∈ gtbl := gt3 (i := 162) rfl rfl
theorem q_643 : (Cond.selects "FlatPlan$Plan" ({ cls := "FlatPlan$Plan", name := "become", desc := "(LFlatPlan$State;)V" } : Jvm.MethodName) ({ cls := "FlatPlan$Plan", name := "become", desc := "(LFlatPlan$State;)V" } : Jvm.MethodName)) ∈ gtbl := gt3 (i := 163) rfl rfl
theorem q_644 : (Cond.code ({ cls := "FlatPlan$Plan", name := "become", desc := "(LFlatPlan$State;)V" } : Jvm.MethodName) prog_6_method_3_code (2 : Nat) (Option.none : Option FieldType)) ∈ gtbl := gt3 (i := 164) rfl rfl
theorem q_645 : (Cond.methodLink "FlatPlan$Plan" (101 : Nat) ({ cls := "FlatPlan$State", name := "copyFrom", desc := "(LFlatPlan$State;)V" } : Jvm.MethodName)) ∈ gtbl := gt3 (i := 165) rfl rfl
theorem q_646 : (Cond.instanceMethod ({ cls := "FlatPlan$State", name := "copyFrom", desc := "(LFlatPlan$State;)V" } : Jvm.MethodName)) ∈ gtbl := gt3 (i := 166) rfl rfl
theorem q_647 : (Cond.selects "FlatPlan$State" ({ cls := "FlatPlan$State", name := "copyFrom", desc := "(LFlatPlan$State;)V" } : Jvm.MethodName) ({ cls := "FlatPlan$State", name := "copyFrom", desc := "(LFlatPlan$State;)V" } : Jvm.MethodName)) ∈ gtbl := gt3 (i := 167) rfl rfl
theorem q_648 : (Cond.code ({ cls := "FlatPlan$State", name := "copyFrom", desc := "(LFlatPlan$State;)V" } : Jvm.MethodName) prog_10_method_2_code (2 : Nat) (Option.none : Option FieldType)) ∈ gtbl := gt3 (i := 168) rfl rfl
theorem q_649 : (Cond.methodLink "FlatPlan$State" (37 : Nat) ({ cls := "FlatPlan$Ads", name := "copyFrom", desc := "(LFlatPlan$Ads;)V" } : Jvm.MethodName)) ∈ gtbl := gt3 (i := 169) rfl rfl
theorem q_650 : (Cond.instanceMethod ({ cls := "FlatPlan$Ads", name := "copyFrom", desc := "(LFlatPlan$Ads;)V" } : Jvm.MethodName)) ∈ gtbl := gt3 (i := 170) rfl rfl
theorem q_651 : (Cond.selects "FlatPlan$Ads" ({ cls := "FlatPlan$Ads", name := "copyFrom", desc := "(LFlatPlan$Ads;)V" } : Jvm.MethodName) ({ cls := "FlatPlan$Ads", name := "copyFrom", desc := "(LFlatPlan$Ads;)V" } : Jvm.MethodName)) ∈ gtbl := gt3 (i := 171) rfl rfl
theorem q_652 : (Cond.code ({ cls := "FlatPlan$Ads", name := "copyFrom", desc := "(LFlatPlan$Ads;)V" } : Jvm.MethodName) prog_2_method_4_code (2 : Nat) (Option.none : Option FieldType)) ∈ gtbl := gt3 (i := 172) rfl rfl
theorem q_653 : (Cond.methodLink "FlatPlan$Ads" (37 : Nat) ({ cls := "java/lang/System", name := "arraycopy", desc := "(Ljava/lang/Object;ILjava/lang/Object;II)V" } : Jvm.MethodName)) ∈ gtbl := gt3 (i := 173) rfl rfl
theorem q_654 : (Cond.static ({ cls := "java/lang/System", name := "arraycopy", desc := "(Ljava/lang/Object;ILjava/lang/Object;II)V" } : Jvm.MethodName)) ∈ gtbl := gt3 (i := 174) rfl rfl
theorem q_655 : (Cond.native ({ cls := "java/lang/System", name := "arraycopy", desc := "(Ljava/lang/Object;ILjava/lang/Object;II)V" } : Jvm.MethodName)) ∈ gtbl := gt3 (i := 175) rfl rfl
theorem q_656 : (Cond.methodLink "FlatPlan$State" (41 : Nat) ({ cls := "FlatPlan$Stories", name := "copyFrom", desc := "(LFlatPlan$Stories;)V" } : Jvm.MethodName)) ∈ gtbl := gt3 (i := 176) rfl rfl
theorem q_657 : (Cond.instanceMethod ({ cls := "FlatPlan$Stories", name := "copyFrom", desc := "(LFlatPlan$Stories;)V" } : Jvm.MethodName)) ∈ gtbl := gt3 (i := 177) rfl rfl
theorem q_658 : (Cond.selects "FlatPlan$Stories" ({ cls := "FlatPlan$Stories", name := "copyFrom", desc := "(LFlatPlan$Stories;)V" } : Jvm.MethodName) ({ cls := "FlatPlan$Stories", name := "copyFrom", desc := "(LFlatPlan$Stories;)V" } : Jvm.MethodName)) ∈ gtbl := gt3 (i := 178) rfl rfl
theorem q_659 : (Cond.code ({ cls := "FlatPlan$Stories", name := "copyFrom", desc := "(LFlatPlan$Stories;)V" } : Jvm.MethodName) prog_11_method_3_code (2 : Nat) (Option.none : Option FieldType)) ∈ gtbl := gt3 (i := 179) rfl rfl
theorem q_660 : (Cond.methodLink "FlatPlan$Stories" (31 : Nat) ({ cls := "java/lang/System", name := "arraycopy", desc := "(Ljava/lang/Object;ILjava/lang/Object;II)V" } : Jvm.MethodName)) ∈ gtbl := gt3 (i := 180) rfl rfl
theorem q_661 : (Cond.methodLink "FlatPlan$State" (44 : Nat) ({ cls := "FlatPlan$Standbys", name := "copyFrom", desc := "(LFlatPlan$Standbys;)V" } : Jvm.MethodName)) ∈ gtbl := gt3 (i := 181) rfl rfl
theorem q_662 : (Cond.instanceMethod ({ cls := "FlatPlan$Standbys", name := "copyFrom", desc := "(LFlatPlan$Standbys;)V" } : Jvm.MethodName)) ∈ gtbl := gt3 (i := 182) rfl rfl
theorem q_663 : (Cond.selects "FlatPlan$Standbys" ({ cls := "FlatPlan$Standbys", name := "copyFrom", desc := "(LFlatPlan$Standbys;)V" } : Jvm.MethodName) ({ cls := "FlatPlan$Standbys", name := "copyFrom", desc := "(LFlatPlan$Standbys;)V" } : Jvm.MethodName)) ∈ gtbl := gt3 (i := 183) rfl rfl
theorem q_664 : (Cond.code ({ cls := "FlatPlan$Standbys", name := "copyFrom", desc := "(LFlatPlan$Standbys;)V" } : Jvm.MethodName) prog_9_method_4_code (2 : Nat) (Option.none : Option FieldType)) ∈ gtbl := gt3 (i := 184) rfl rfl
theorem q_665 : (Cond.methodLink "FlatPlan$Standbys" (22 : Nat) ({ cls := "java/lang/System", name := "arraycopy", desc := "(Ljava/lang/Object;ILjava/lang/Object;II)V" } : Jvm.MethodName)) ∈ gtbl := gt3 (i := 185) rfl rfl
theorem q_666 : (Cond.methodLink "FlatPlan$State" (47 : Nat) ({ cls := "FlatPlan$Forms", name := "copyFrom", desc := "(LFlatPlan$Forms;)V" } : Jvm.MethodName)) ∈ gtbl := gt3 (i := 186) rfl rfl
theorem q_667 : (Cond.instanceMethod ({ cls := "FlatPlan$Forms", name := "copyFrom", desc := "(LFlatPlan$Forms;)V" } : Jvm.MethodName)) ∈ gtbl := gt3 (i := 187) rfl rfl
theorem q_668 : (Cond.selects "FlatPlan$Forms" ({ cls := "FlatPlan$Forms", name := "copyFrom", desc := "(LFlatPlan$Forms;)V" } : Jvm.MethodName) ({ cls := "FlatPlan$Forms", name := "copyFrom", desc := "(LFlatPlan$Forms;)V" } : Jvm.MethodName)) ∈ gtbl := gt3 (i := 188) rfl rfl
theorem q_669 : (Cond.code ({ cls := "FlatPlan$Forms", name := "copyFrom", desc := "(LFlatPlan$Forms;)V" } : Jvm.MethodName) prog_4_method_2_code (2 : Nat) (Option.none : Option FieldType)) ∈ gtbl := gt3 (i := 189) rfl rfl
theorem q_670 : (Cond.methodLink "FlatPlan$Forms" (21 : Nat) ({ cls := "java/lang/System", name := "arraycopy", desc := "(Ljava/lang/Object;ILjava/lang/Object;II)V" } : Jvm.MethodName)) ∈ gtbl := gt3 (i := 190) rfl rfl
theorem q_671 : (Cond.methodLink "FlatPlan" (74 : Nat) ({ cls := "FlatPlan$History", name := "forget", desc := "()V" } : Jvm.MethodName)) ∈ gtbl := gt3 (i := 191) rfl rfl
theorem q_672 : (Cond.instanceMethod ({ cls := "FlatPlan$History", name := "forget", desc := "()V" } : Jvm.MethodName)) ∈ gtbl := gt3 (i := 192) rfl rfl
theorem q_673 : (Cond.selects "FlatPlan$History" ({ cls := "FlatPlan$History", name := "forget", desc := "()V" } : Jvm.MethodName) ({ cls := "FlatPlan$History", name := "forget", desc := "()V" } : Jvm.MethodName)) ∈ gtbl := gt3 (i := 193) rfl rfl
theorem q_674 : (Cond.code ({ cls := "FlatPlan$History", name := "forget", desc := "()V" } : Jvm.MethodName) prog_5_method_4_code (1 : Nat) (Option.none : Option FieldType)) ∈ gtbl := gt3 (i := 194) rfl rfl
theorem q_675 : (Cond.arrayClass FieldType.byte) ∈ gtbl := gt3 (i := 195) rfl rfl
theorem q_676 : (Cond.methodLink "FlatPlanLaw" (464 : Nat) ({ cls := "FlatPlan", name := "errorCode", desc := "()I" } : Jvm.MethodName)) ∈ gtbl := gt3 (i := 196) rfl rfl
theorem q_677 : (Cond.instanceMethod ({ cls := "FlatPlan", name := "errorCode", desc := "()I" } : Jvm.MethodName)) ∈ gtbl := gt3 (i := 197) rfl rfl
theorem q_678 : (Cond.selects "FlatPlan" ({ cls := "FlatPlan", name := "errorCode", desc := "()I" } : Jvm.MethodName) ({ cls := "FlatPlan", name := "errorCode", desc := "()I" } : Jvm.MethodName)) ∈ gtbl := gt3 (i := 198) rfl rfl
theorem q_679 : (Cond.code ({ cls := "FlatPlan", name := "errorCode", desc := "()I" } : Jvm.MethodName) prog_1_method_5_code (1 : Nat) (Option.some FieldType.int)) ∈ gtbl := gt3 (i := 199) rfl rfl
theorem q_680 : (Cond.methodLink "FlatPlanLaw" (467 : Nat) ({ cls := "FlatPlan", name := "errorPosition", desc := "()I" } : Jvm.MethodName)) ∈ gtbl := gt3 (i := 200) rfl rfl
theorem q_681 : (Cond.instanceMethod ({ cls := "FlatPlan", name := "errorPosition", desc := "()I" } : Jvm.MethodName)) ∈ gtbl := gt3 (i := 201) rfl rfl
theorem q_682 : (Cond.selects "FlatPlan" ({ cls := "FlatPlan", name := "errorPosition", desc := "()I" } : Jvm.MethodName) ({ cls := "FlatPlan", name := "errorPosition", desc := "()I" } : Jvm.MethodName)) ∈ gtbl := gt3 (i := 202) rfl rfl
theorem q_683 : (Cond.code ({ cls := "FlatPlan", name := "errorPosition", desc := "()I" } : Jvm.MethodName) prog_1_method_6_code (1 : Nat) (Option.some FieldType.int)) ∈ gtbl := gt3 (i := 203) rfl rfl
theorem q_684 : (Cond.methodLink "FlatPlanLaw" (275 : Nat) ({ cls := "FlatPlan", name := "tightest", desc := "()I" } : Jvm.MethodName)) ∈ gtbl := gt3 (i := 204) rfl rfl
theorem q_685 : (Cond.instanceMethod ({ cls := "FlatPlan", name := "tightest", desc := "()I" } : Jvm.MethodName)) ∈ gtbl := gt3 (i := 205) rfl rfl
theorem q_686 : (Cond.selects "FlatPlan" ({ cls := "FlatPlan", name := "tightest", desc := "()I" } : Jvm.MethodName) ({ cls := "FlatPlan", name := "tightest", desc := "()I" } : Jvm.MethodName)) ∈ gtbl := gt3 (i := 206) rfl rfl
theorem q_687 : (Cond.code ({ cls := "FlatPlan", name := "tightest", desc := "()I" } : Jvm.MethodName) prog_1_method_38_code (1 : Nat) (Option.some FieldType.int)) ∈ gtbl := gt3 (i := 207) rfl rfl
theorem q_688 : (Cond.methodLink "FlatPlan" (292 : Nat) ({ cls := "FlatPlan$Searches", name := "tightestAd", desc := "()I" } : Jvm.MethodName)) ∈ gtbl := gt3 (i := 208) rfl rfl
theorem q_689 : (Cond.instanceMethod ({ cls := "FlatPlan$Searches", name := "tightestAd", desc := "()I" } : Jvm.MethodName)) ∈ gtbl := gt3 (i := 209) rfl rfl
theorem q_690 : (Cond.selects "FlatPlan$Searches" ({ cls := "FlatPlan$Searches", name := "tightestAd", desc := "()I" } : Jvm.MethodName) ({ cls := "FlatPlan$Searches", name := "tightestAd", desc := "()I" } : Jvm.MethodName)) ∈ gtbl := gt3 (i := 210) rfl rfl
theorem q_691 : (Cond.code ({ cls := "FlatPlan$Searches", name := "tightestAd", desc := "()I" } : Jvm.MethodName) prog_8_method_8_code (5 : Nat) (Option.some FieldType.int)) ∈ gtbl := gt3 (i := 211) rfl rfl
theorem q_692 : (Cond.methodLink "FlatPlan$Searches" (108 : Nat) ({ cls := "FlatPlan$Searches", name := "pagesFor", desc := "(I)I" } : Jvm.MethodName)) ∈ gtbl := gt3 (i := 212) rfl rfl
theorem q_693 : (Cond.instanceMethod ({ cls := "FlatPlan$Searches", name := "pagesFor", desc := "(I)I" } : Jvm.MethodName)) ∈ gtbl := gt3 (i := 213) rfl rfl
theorem q_694 : (Cond.selects "FlatPlan$Searches" ({ cls := "FlatPlan$Searches", name := "pagesFor", desc := "(I)I" } : Jvm.MethodName) ({ cls := "FlatPlan$Searches", name := "pagesFor", desc := "(I)I" } : Jvm.MethodName)) ∈ gtbl := gt3 (i := 214) rfl rfl
theorem q_695 : (Cond.code ({ cls := "FlatPlan$Searches", name := "pagesFor", desc := "(I)I" } : Jvm.MethodName) prog_8_method_7_code (4 : Nat) (Option.some FieldType.int)) ∈ gtbl := gt3 (i := 215) rfl rfl
theorem q_696 : (Cond.methodLink "FlatPlan$Searches" (105 : Nat) ({ cls := "FlatPlan$Plan", name := "adReason", desc := "(II)I" } : Jvm.MethodName)) ∈ gtbl := gt3 (i := 216) rfl rfl
theorem q_697 : (Cond.methodLink "FlatPlanLaw" (282 : Nat) ({ cls := "FlatPlan", name := "matching", desc := "()I" } : Jvm.MethodName)) ∈ gtbl := gt3 (i := 217) rfl rfl
theorem q_698 : (Cond.instanceMethod ({ cls := "FlatPlan", name := "matching", desc := "()I" } : Jvm.MethodName)) ∈ gtbl := gt3 (i := 218) rfl rfl
theorem q_699 : (Cond.selects "FlatPlan" ({ cls := "FlatPlan", name := "matching", desc := "()I" } : Jvm.MethodName) ({ cls := "FlatPlan", name := "matching", desc := "()I" } : Jvm.MethodName)) ∈ gtbl := gt3 (i := 219) rfl rfl
theorem q_700 : (Cond.code ({ cls := "FlatPlan", name := "matching", desc := "()I" } : Jvm.MethodName) prog_1_method_41_code (1 : Nat) (Option.some FieldType.int)) ∈ gtbl := gt3 (i := 220) rfl rfl
theorem q_701 : (Cond.methodLink "FlatPlan" (301 : Nat) ({ cls := "FlatPlan$Searches", name := "matchedAds", desc := "()I" } : Jvm.MethodName)) ∈ gtbl := gt3 (i := 221) rfl rfl
theorem q_702 : (Cond.instanceMethod ({ cls := "FlatPlan$Searches", name := "matchedAds", desc := "()I" } : Jvm.MethodName)) ∈ gtbl := gt3 (i := 222) rfl rfl
theorem q_703 : (Cond.selects "FlatPlan$Searches" ({ cls := "FlatPlan$Searches", name := "matchedAds", desc := "()I" } : Jvm.MethodName) ({ cls := "FlatPlan$Searches", name := "matchedAds", desc := "()I" } : Jvm.MethodName)) ∈ gtbl := gt3 (i := 223) rfl rfl
theorem q_704 : (Cond.code ({ cls := "FlatPlan$Searches", name := "matchedAds", desc := "()I" } : Jvm.MethodName) prog_8_method_14_code (3 : Nat) (Option.some FieldType.int)) ∈ gtbl := gt3 (i := 224) rfl rfl
theorem q_705 : (Cond.methodLink "FlatPlan$Searches" (140 : Nat) ({ cls := "java/util/Arrays", name := "fill", desc := "([II)V" } : Jvm.MethodName)) ∈ gtbl := gt3 (i := 225) rfl rfl
theorem q_706 : (Cond.methodLink "FlatPlan$Searches" (146 : Nat) ({ cls := "FlatPlan$Searches", name := "matchOneMore", desc := "(I)Z" } : Jvm.MethodName)) ∈ gtbl := gt3 (i := 226) rfl rfl
theorem q_708 : (Cond.instanceMethod ({ cls := "FlatPlan$Searches", name := "matchOneMore", desc := "(I)Z" } : Jvm.MethodName)) ∈ gtbl := gt3 (i := 228) rfl rfl
theorem q_709 : (Cond.code ({ cls := "FlatPlan$Searches", name := "matchOneMore", desc := "(I)Z" } : Jvm.MethodName) prog_8_method_15_code (5 : Nat) (Option.some FieldType.boolean)) ∈ gtbl := gt3 (i := 229) rfl rfl
theorem q_710 : (Cond.methodLink "FlatPlan$Searches" (149 : Nat) ({ cls := "FlatPlan$Searches", name := "mayMatch", desc := "(II)Z" } : Jvm.MethodName)) ∈ gtbl := gt3 (i := 230) rfl rfl
theorem q_712 : (Cond.instanceMethod ({ cls := "FlatPlan$Searches", name := "mayMatch", desc := "(II)Z" } : Jvm.MethodName)) ∈ gtbl := gt3 (i := 232) rfl rfl
theorem q_713 : (Cond.code ({ cls := "FlatPlan$Searches", name := "mayMatch", desc := "(II)Z" } : Jvm.MethodName) prog_8_method_16_code (4 : Nat) (Option.some FieldType.boolean)) ∈ gtbl := gt3 (i := 233) rfl rfl
theorem q_714 : (Cond.methodLink "FlatPlan$Searches" (152 : Nat) ({ cls := "FlatPlan$Searches", name := "changePartners", desc := "(I)V" } : Jvm.MethodName)) ∈ gtbl := gt3 (i := 234) rfl rfl
theorem q_716 : (Cond.instanceMethod ({ cls := "FlatPlan$Searches", name := "changePartners", desc := "(I)V" } : Jvm.MethodName)) ∈ gtbl := gt3 (i := 236) rfl rfl
theorem q_717 : (Cond.code ({ cls := "FlatPlan$Searches", name := "changePartners", desc := "(I)V" } : Jvm.MethodName) prog_8_method_17_code (6 : Nat) (Option.none : Option FieldType)) ∈ gtbl := gt3 (i := 237) rfl rfl
theorem q_718 : (Cond.methodLink "FlatPlanLaw" (202 : Nat) ({ cls := "FlatPlan", name := "describedByte", desc := "(I)I" } : Jvm.MethodName)) ∈ gtbl := gt3 (i := 238) rfl rfl
theorem q_719 : (Cond.instanceMethod ({ cls := "FlatPlan", name := "describedByte", desc := "(I)I" } : Jvm.MethodName)) ∈ gtbl := gt3 (i := 239) rfl rfl
theorem q_720 : (Cond.selects "FlatPlan" ({ cls := "FlatPlan", name := "describedByte", desc := "(I)I" } : Jvm.MethodName) ({ cls := "FlatPlan", name := "describedByte", desc := "(I)I" } : Jvm.MethodName)) ∈ gtbl := gt4 (i := 0) rfl rfl
theorem q_721 : (Cond.code ({ cls := "FlatPlan", name := "describedByte", desc := "(I)I" } : Jvm.MethodName) prog_1_method_59_code (2 : Nat) (Option.some FieldType.int)) ∈ gtbl := gt4 (i := 1) rfl rfl
theorem q_722 : (Cond.methodLink "FlatPlan" (355 : Nat) ({ cls := "FlatPlan$Bytes", name := "byteAt", desc := "(I)I" } : Jvm.MethodName)) ∈ gtbl := gt4 (i := 2) rfl rfl
theorem q_723 : (Cond.methodLink "FlatPlanLaw" (470 : Nat) ({ cls := "FlatPlan", name := "undo", desc := "()Z" } : Jvm.MethodName)) ∈ gtbl := gt4 (i := 3) rfl rfl
theorem q_724 : (Cond.instanceMethod ({ cls := "FlatPlan", name := "undo", desc := "()Z" } : Jvm.MethodName)) ∈ gtbl := gt4 (i := 4) rfl rfl
theorem q_725 : (Cond.selects "FlatPlan" ({ cls := "FlatPlan", name := "undo", desc := "()Z" } : Jvm.MethodName) ({ cls := "FlatPlan", name := "undo", desc := "()Z" } : Jvm.MethodName)) ∈ gtbl := gt4 (i := 5) rfl rfl
theorem q_726 : (Cond.code ({ cls := "FlatPlan", name := "undo", desc := "()Z" } : Jvm.MethodName) prog_1_method_61_code (1 : Nat) (Option.some FieldType.boolean)) ∈ gtbl := gt4 (i := 6) rfl rfl
theorem q_727 : (Cond.methodLink "FlatPlan" (358 : Nat) ({ cls := "FlatPlan$History", name := "bringBack", desc := "(LFlatPlan$Plan;)Z" } : Jvm.MethodName)) ∈ gtbl := gt4 (i := 7) rfl rfl
theorem q_728 : (Cond.instanceMethod ({ cls := "FlatPlan$History", name := "bringBack", desc := "(LFlatPlan$Plan;)Z" } : Jvm.MethodName)) ∈ gtbl := gt4 (i := 8) rfl rfl
theorem q_729 : (Cond.selects "FlatPlan$History" ({ cls := "FlatPlan$History", name := "bringBack", desc := "(LFlatPlan$Plan;)Z" } : Jvm.MethodName) ({ cls := "FlatPlan$History", name := "bringBack", desc := "(LFlatPlan$Plan;)Z" } : Jvm.MethodName)) ∈ gtbl := gt4 (i := 9) rfl rfl
theorem q_730 : (Cond.code ({ cls := "FlatPlan$History", name := "bringBack", desc := "(LFlatPlan$Plan;)Z" } : Jvm.MethodName) prog_5_method_3_code (2 : Nat) (Option.some FieldType.boolean)) ∈ gtbl := gt4 (i := 10) rfl rfl
theorem q_731 : (Cond.methodLink "FlatPlan$History" (35 : Nat) ({ cls := "FlatPlan$Plan", name := "become", desc := "(LFlatPlan$State;)V" } : Jvm.MethodName)) ∈ gtbl := gt4 (i := 11) rfl rfl
theorem q_732 : (Cond.classLink "FlatPlanLaw" (43 : Nat) "FlatPlanLaw$Plan") ∈ gtbl := gt4 (i := 12) rfl rfl
theorem q_733 : (Cond.instantiable "FlatPlanLaw$Plan" (10 : Nat)) ∈ gtbl := gt4 (i := 13) rfl rfl
theorem q_735 : (Cond.instanceMethod ({ cls := "FlatPlanLaw$Plan", name := "<init>", desc := "()V" } : Jvm.MethodName)) ∈ gtbl := gt4 (i := 15) rfl rfl
theorem q_736 : (Cond.code ({ cls := "FlatPlanLaw$Plan", name := "<init>", desc := "()V" } : Jvm.MethodName) prog_14_method_1_code (1 : Nat) (Option.none : Option FieldType)) ∈ gtbl := gt4 (i := 16) rfl rfl
theorem q_737 : (Cond.methodLink "FlatPlanLaw$Plan" (3 : Nat) ({ cls := "java/lang/Object", name := "<init>", desc := "()V" } : Jvm.MethodName)) ∈ gtbl := gt4 (i := 17) rfl rfl
theorem q_738 : (Cond.classLink "FlatPlanLaw$Plan" (18 : Nat) "java/util/ArrayList") ∈ gtbl := gt4 (i := 18) rfl rfl
theorem q_739 : (Cond.instantiable "java/util/ArrayList" (3 : Nat)) ∈ gtbl := gt4 (i := 19) rfl rfl
theorem q_740 : (Cond.methodLink "FlatPlanLaw$Plan" (20 : Nat) ({ cls := "java/util/ArrayList", name := "<init>", desc := "()V" } : Jvm.MethodName)) ∈ gtbl := gt4 (i := 20) rfl rfl
theorem q_741 : (Cond.instanceMethod ({ cls := "java/util/ArrayList", name := "<init>", desc := "()V" } : Jvm.MethodName)) ∈ gtbl := gt4 (i := 21) rfl rfl
theorem q_742 : (Cond.code ({ cls := "java/util/ArrayList", name := "<init>", desc := "()V" } : Jvm.MethodName) prog_43_method_2_code (1 : Nat) (Option.none : Option FieldType)) ∈ gtbl := gt4 (i := 22) rfl rfl
theorem q_743 : (Cond.methodLink "java/util/ArrayList" (1 : Nat) ({ cls := "java/util/AbstractList", name := "<init>", desc := "()V" } : Jvm.MethodName)) ∈ gtbl := gt4 (i := 23) rfl rfl
theorem q_744 : (Cond.instanceMethod ({ cls := "java/util/AbstractList", name := "<init>", desc := "()V" } : Jvm.MethodName)) ∈ gtbl := gt4 (i := 24) rfl rfl
theorem q_745 : (Cond.code ({ cls := "java/util/AbstractList", name := "<init>", desc := "()V" } : Jvm.MethodName) prog_42_method_1_code (1 : Nat) (Option.none : Option FieldType)) ∈ gtbl := gt4 (i := 25) rfl rfl
theorem q_746 : (Cond.methodLink "java/util/AbstractList" (1 : Nat) ({ cls := "java/util/AbstractCollection", name := "<init>", desc := "()V" } : Jvm.MethodName)) ∈ gtbl := gt4 (i := 26) rfl rfl
theorem q_747 : (Cond.instanceMethod ({ cls := "java/util/AbstractCollection", name := "<init>", desc := "()V" } : Jvm.MethodName)) ∈ gtbl := gt4 (i := 27) rfl rfl
theorem q_748 : (Cond.code ({ cls := "java/util/AbstractCollection", name := "<init>", desc := "()V" } : Jvm.MethodName) prog_41_method_1_code (1 : Nat) (Option.none : Option FieldType)) ∈ gtbl := gt4 (i := 28) rfl rfl
theorem q_749 : (Cond.methodLink "java/util/AbstractCollection" (1 : Nat) ({ cls := "java/lang/Object", name := "<init>", desc := "()V" } : Jvm.MethodName)) ∈ gtbl := gt4 (i := 29) rfl rfl
theorem q_750 : (Cond.fieldLink "java/util/ArrayList" (39 : Nat) "java/util/ArrayList" "DEFAULTCAPACITY_EMPTY_ELEMENTDATA" "[Ljava/lang/Object;") ∈ gtbl := gt4 (i := 30) rfl rfl
theorem q_752 : (Cond.fieldLink "java/util/ArrayList" (9 : Nat) "java/util/ArrayList" "elementData" "[Ljava/lang/Object;") ∈ gtbl := gt4 (i := 32) rfl rfl
theorem q_753 : (Cond.fieldLink "java/util/ArrayList$Itr" (37 : Nat) "java/util/ArrayList" "elementData" "[Ljava/lang/Object;") ∈ gtbl := gt4 (i := 33) rfl rfl
theorem q_755 : (Cond.fieldLink "java/util/ArrayList" (48 : Nat) "java/util/ArrayList" "size" "I") ∈ gtbl := gt4 (i := 35) rfl rfl
theorem q_756 : (Cond.fieldLink "java/util/AbstractList" (7 : Nat) "java/util/AbstractList" "modCount" "I") ∈ gtbl := gt4 (i := 36) rfl rfl
theorem q_757 : (Cond.fieldLink "java/util/ArrayList$Itr" (17 : Nat) "java/util/ArrayList" "modCount" "I") ∈ gtbl := gt4 (i := 37) rfl rfl
theorem q_759 : (Cond.fieldLink "java/util/ArrayList" (63 : Nat) "java/util/ArrayList" "modCount" "I") ∈ gtbl := gt4 (i := 39) rfl rfl
theorem q_760 : (Cond.lays "java/util/ArrayList" "java/util/ArrayList" "elementData" "[Ljava/lang/Object;") ∈ gtbl := gt4 (i := 40) rfl rfl
theorem q_762 : (Cond.lays "java/util/ArrayList" "java/util/ArrayList" "size" "I") ∈ gtbl := gt4 (i := 42) rfl rfl
theorem q_764 : (Cond.lays "java/util/ArrayList" "java/util/AbstractList" "modCount" "I") ∈ gtbl := gt4 (i := 44) rfl rfl
theorem q_767 : (Cond.fieldLink "FlatPlanLaw$Plan" (9 : Nat) "FlatPlanLaw$Plan" "g" "I") ∈ gtbl := gt4 (i := 47) rfl rfl
theorem q_768 : (Cond.fieldLink "FlatPlanLaw" (47 : Nat) "FlatPlanLaw$Plan" "g" "I") ∈ gtbl := gt4 (i := 48) rfl rfl
theorem q_769 : (Cond.fieldLink "FlatPlanLaw$Plan" (15 : Nat) "FlatPlanLaw$Plan" "s" "I") ∈ gtbl := gt4 (i := 49) rfl rfl
theorem q_770 : (Cond.fieldLink "FlatPlanLaw" (145 : Nat) "FlatPlanLaw$Plan" "s" "I") ∈ gtbl := gt4 (i := 50) rfl rfl
theorem q_771 : (Cond.fieldLink "FlatPlanLaw$Plan" (43 : Nat) "FlatPlanLaw$Plan" "time" "I") ∈ gtbl := gt4 (i := 51) rfl rfl
theorem q_772 : (Cond.fieldLink "FlatPlanLaw" (66 : Nat) "FlatPlanLaw$Plan" "time" "I") ∈ gtbl := gt4 (i := 52) rfl rfl
theorem q_773 : (Cond.fieldLink "FlatPlanLaw$Plan" (46 : Nat) "FlatPlanLaw$Plan" "lost" "I") ∈ gtbl := gt4 (i := 53) rfl rfl
theorem q_774 : (Cond.fieldLink "FlatPlanLaw" (125 : Nat) "FlatPlanLaw$Plan" "lost" "I") ∈ gtbl := gt4 (i := 54) rfl rfl
theorem q_775 : (Cond.fieldLink "FlatPlanLaw$Plan" (21 : Nat) "FlatPlanLaw$Plan" "ads" "Ljava/util/ArrayList;") ∈ gtbl := gt4 (i := 55) rfl rfl
theorem q_776 : (Cond.fieldLink "FlatPlanLaw" (51 : Nat) "FlatPlanLaw$Plan" "ads" "Ljava/util/ArrayList;") ∈ gtbl := gt4 (i := 56) rfl rfl
theorem q_777 : (Cond.fieldLink "FlatPlanLaw$Plan" (25 : Nat) "FlatPlanLaw$Plan" "stories" "Ljava/util/ArrayList;") ∈ gtbl := gt4 (i := 57) rfl rfl
theorem q_778 : (Cond.fieldLink "FlatPlanLaw" (60 : Nat) "FlatPlanLaw$Plan" "stories" "Ljava/util/ArrayList;") ∈ gtbl := gt4 (i := 58) rfl rfl
theorem q_779 : (Cond.fieldLink "FlatPlanLaw$Plan" (28 : Nat) "FlatPlanLaw$Plan" "standbys" "Ljava/util/ArrayList;") ∈ gtbl := gt4 (i := 59) rfl rfl
theorem q_780 : (Cond.fieldLink "FlatPlanLaw" (63 : Nat) "FlatPlanLaw$Plan" "standbys" "Ljava/util/ArrayList;") ∈ gtbl := gt4 (i := 60) rfl rfl
theorem q_781 : (Cond.fieldLink "FlatPlanLaw$Plan" (31 : Nat) "FlatPlanLaw$Plan" "color" "[Z") ∈ gtbl := gt4 (i := 61) rfl rfl
theorem q_782 : (Cond.fieldLink "FlatPlanLaw" (111 : Nat) "FlatPlanLaw$Plan" "color" "[Z") ∈ gtbl := gt4 (i := 62) rfl rfl
theorem q_783 : (Cond.fieldLink "FlatPlanLaw$Plan" (35 : Nat) "FlatPlanLaw$Plan" "printed" "[Z") ∈ gtbl := gt4 (i := 63) rfl rfl
theorem q_784 : (Cond.fieldLink "FlatPlanLaw" (107 : Nat) "FlatPlanLaw$Plan" "printed" "[Z") ∈ gtbl := gt4 (i := 64) rfl rfl
theorem q_785 : (Cond.fieldLink "FlatPlanLaw$Plan" (38 : Nat) "FlatPlanLaw$Plan" "closing" "[I") ∈ gtbl := gt4 (i := 65) rfl rfl
theorem q_786 : (Cond.fieldLink "FlatPlanLaw" (221 : Nat) "FlatPlanLaw$Plan" "closing" "[I") ∈ gtbl := gt4 (i := 66) rfl rfl
theorem q_787 : (Cond.lays "FlatPlanLaw$Plan" "FlatPlanLaw$Plan" "g" "I") ∈ gtbl := gt4 (i := 67) rfl rfl
theorem q_789 : (Cond.lays "FlatPlanLaw$Plan" "FlatPlanLaw$Plan" "s" "I") ∈ gtbl := gt4 (i := 69) rfl rfl
theorem q_791 : (Cond.lays "FlatPlanLaw$Plan" "FlatPlanLaw$Plan" "time" "I") ∈ gtbl := gt4 (i := 71) rfl rfl
theorem q_793 : (Cond.lays "FlatPlanLaw$Plan" "FlatPlanLaw$Plan" "lost" "I") ∈ gtbl := gt4 (i := 73) rfl rfl
theorem q_795 : (Cond.lays "FlatPlanLaw$Plan" "FlatPlanLaw$Plan" "ads" "Ljava/util/ArrayList;") ∈ gtbl := gt4 (i := 75) rfl rfl
theorem q_797 : (Cond.lays "FlatPlanLaw$Plan" "FlatPlanLaw$Plan" "stories" "Ljava/util/ArrayList;") ∈ gtbl := gt4 (i := 77) rfl rfl
theorem q_799 : (Cond.lays "FlatPlanLaw$Plan" "FlatPlanLaw$Plan" "standbys" "Ljava/util/ArrayList;") ∈ gtbl := gt4 (i := 79) rfl rfl
theorem q_801 : (Cond.lays "FlatPlanLaw$Plan" "FlatPlanLaw$Plan" "color" "[Z") ∈ gtbl := gt4 (i := 81) rfl rfl
theorem q_803 : (Cond.lays "FlatPlanLaw$Plan" "FlatPlanLaw$Plan" "printed" "[Z") ∈ gtbl := gt4 (i := 83) rfl rfl
theorem q_805 : (Cond.lays "FlatPlanLaw$Plan" "FlatPlanLaw$Plan" "closing" "[I") ∈ gtbl := gt4 (i := 85) rfl rfl
theorem q_808 : (Cond.arrayClass FieldType.boolean) ∈ gtbl := gt4 (i := 88) rfl rfl
theorem q_809 : (Cond.methodLink "FlatPlanLaw" (243 : Nat) ({ cls := "FlatPlanLaw$Plan", name := "copy", desc := "()LFlatPlanLaw$Plan;" } : Jvm.MethodName)) ∈ gtbl := gt4 (i := 89) rfl rfl
theorem q_810 : (Cond.instanceMethod ({ cls := "FlatPlanLaw$Plan", name := "copy", desc := "()LFlatPlanLaw$Plan;" } : Jvm.MethodName)) ∈ gtbl := gt4 (i := 90) rfl rfl
theorem q_811 : (Cond.selects "FlatPlanLaw$Plan" ({ cls := "FlatPlanLaw$Plan", name := "copy", desc := "()LFlatPlanLaw$Plan;" } : Jvm.MethodName) ({ cls := "FlatPlanLaw$Plan", name := "copy", desc := "()LFlatPlanLaw$Plan;" } : Jvm.MethodName)) ∈ gtbl := gt4 (i := 91) rfl rfl
theorem q_812 : (Cond.code ({ cls := "FlatPlanLaw$Plan", name := "copy", desc := "()LFlatPlanLaw$Plan;" } : Jvm.MethodName) prog_14_method_2_code (4 : Nat) (Option.some (FieldType.object "FlatPlanLaw$Plan"))) ∈ gtbl := gt4 (i := 92) rfl rfl
theorem q_813 : (Cond.classLink "FlatPlanLaw$Plan" (10 : Nat) "FlatPlanLaw$Plan") ∈ gtbl := gt4 (i := 93) rfl rfl
theorem q_814 : (Cond.methodLink "FlatPlanLaw$Plan" (42 : Nat) ({ cls := "FlatPlanLaw$Plan", name := "<init>", desc := "()V" } : Jvm.MethodName)) ∈ gtbl := gt4 (i := 94) rfl rfl
theorem q_815 : (Cond.methodLink "FlatPlanLaw$Plan" (49 : Nat) ({ cls := "java/util/ArrayList", name := "iterator", desc := "()Ljava/util/Iterator;" } : Jvm.MethodName)) ∈ gtbl := gt4 (i := 95) rfl rfl
theorem q_816 : (Cond.instanceMethod ({ cls := "java/util/ArrayList", name := "iterator", desc := "()Ljava/util/Iterator;" } : Jvm.MethodName)) ∈ gtbl := gt4 (i := 96) rfl rfl
theorem q_817 : (Cond.selects "java/util/ArrayList" ({ cls := "java/util/ArrayList", name := "iterator", desc := "()Ljava/util/Iterator;" } : Jvm.MethodName) ({ cls := "java/util/ArrayList", name := "iterator", desc := "()Ljava/util/Iterator;" } : Jvm.MethodName)) ∈ gtbl := gt4 (i := 97) rfl rfl
theorem q_818 : (Cond.code ({ cls := "java/util/ArrayList", name := "iterator", desc := "()Ljava/util/Iterator;" } : Jvm.MethodName) prog_43_method_55_code (1 : Nat) (Option.some (FieldType.object "java/util/Iterator"))) ∈ gtbl := gt4 (i := 98) rfl rfl
theorem q_819 : (Cond.classLink "java/util/ArrayList" (267 : Nat) "java/util/ArrayList$Itr") ∈ gtbl := gt4 (i := 99) rfl rfl
theorem q_820 : (Cond.instantiable "java/util/ArrayList$Itr" (4 : Nat)) ∈ gtbl := gt4 (i := 100) rfl rfl
theorem q_821 : (Cond.methodLink "java/util/ArrayList" (269 : Nat) ({ cls := "java/util/ArrayList$Itr", name := "<init>", desc := "(Ljava/util/ArrayList;)V" } : Jvm.MethodName)) ∈ gtbl := gt4 (i := 101) rfl rfl
theorem q_822 : (Cond.instanceMethod ({ cls := "java/util/ArrayList$Itr", name := "<init>", desc := "(Ljava/util/ArrayList;)V" } : Jvm.MethodName)) ∈ gtbl := gt4 (i := 102) rfl rfl
theorem q_823 : (Cond.code ({ cls := "java/util/ArrayList$Itr", name := "<init>", desc := "(Ljava/util/ArrayList;)V" } : Jvm.MethodName) prog_44_method_1_code (2 : Nat) (Option.none : Option FieldType)) ∈ gtbl := gt4 (i := 103) rfl rfl
theorem q_824 : (Cond.methodLink "java/util/ArrayList$Itr" (7 : Nat) ({ cls := "java/lang/Object", name := "<init>", desc := "()V" } : Jvm.MethodName)) ∈ gtbl := gt4 (i := 104) rfl rfl
theorem q_825 : (Cond.fieldLink "java/util/ArrayList$Itr" (25 : Nat) "java/util/ArrayList$Itr" "cursor" "I") ∈ gtbl := gt4 (i := 105) rfl rfl
theorem q_826 : (Cond.fieldLink "java/util/ArrayList$Itr" (13 : Nat) "java/util/ArrayList$Itr" "lastRet" "I") ∈ gtbl := gt4 (i := 106) rfl rfl
theorem q_827 : (Cond.fieldLink "java/util/ArrayList$Itr" (22 : Nat) "java/util/ArrayList$Itr" "expectedModCount" "I") ∈ gtbl := gt4 (i := 107) rfl rfl
theorem q_828 : (Cond.fieldLink "java/util/ArrayList$Itr" (1 : Nat) "java/util/ArrayList$Itr" "this$0" "Ljava/util/ArrayList;") ∈ gtbl := gt4 (i := 108) rfl rfl
theorem q_829 : (Cond.lays "java/util/ArrayList$Itr" "java/util/ArrayList$Itr" "cursor" "I") ∈ gtbl := gt4 (i := 109) rfl rfl
theorem q_831 : (Cond.lays "java/util/ArrayList$Itr" "java/util/ArrayList$Itr" "lastRet" "I") ∈ gtbl := gt4 (i := 111) rfl rfl
theorem q_833 : (Cond.lays "java/util/ArrayList$Itr" "java/util/ArrayList$Itr" "expectedModCount" "I") ∈ gtbl := gt4 (i := 113) rfl rfl
theorem q_835 : (Cond.laysFinal "java/util/ArrayList$Itr" "java/util/ArrayList$Itr" "this$0" "Ljava/util/ArrayList;") ∈ gtbl := gt4 (i := 115) rfl rfl
theorem q_839 : (Cond.methodLink "FlatPlanLaw$Plan" (53 : Nat) ({ cls := "java/util/Iterator", name := "hasNext", desc := "()Z" } : Jvm.MethodName)) ∈ gtbl := gt4 (i := 119) rfl rfl
theorem q_843 : (Cond.selects "java/util/ArrayList$Itr" ({ cls := "java/util/Iterator", name := "hasNext", desc := "()Z" } : Jvm.MethodName) ({ cls := "java/util/ArrayList$Itr", name := "hasNext", desc := "()Z" } : Jvm.MethodName)) ∈ gtbl := gt4 (i := 123) rfl rfl
theorem q_845 : (Cond.instanceMethod ({ cls := "java/util/ArrayList$Itr", name := "hasNext", desc := "()Z" } : Jvm.MethodName)) ∈ gtbl := gt4 (i := 125) rfl rfl
theorem q_847 : (Cond.code ({ cls := "java/util/ArrayList$Itr", name := "hasNext", desc := "()Z" } : Jvm.MethodName) prog_44_method_2_code (1 : Nat) (Option.some FieldType.boolean)) ∈ gtbl := gt4 (i := 127) rfl rfl
theorem q_849 : (Cond.methodLink "FlatPlanLaw$Plan" (59 : Nat) ({ cls := "java/util/Iterator", name := "next", desc := "()Ljava/lang/Object;" } : Jvm.MethodName)) ∈ gtbl := gt4 (i := 129) rfl rfl
theorem q_852 : (Cond.selects "java/util/ArrayList$Itr" ({ cls := "java/util/Iterator", name := "next", desc := "()Ljava/lang/Object;" } : Jvm.MethodName) ({ cls := "java/util/ArrayList$Itr", name := "next", desc := "()Ljava/lang/Object;" } : Jvm.MethodName)) ∈ gtbl := gt4 (i := 132) rfl rfl
theorem q_854 : (Cond.instanceMethod ({ cls := "java/util/ArrayList$Itr", name := "next", desc := "()Ljava/lang/Object;" } : Jvm.MethodName)) ∈ gtbl := gt4 (i := 134) rfl rfl
theorem q_856 : (Cond.code ({ cls := "java/util/ArrayList$Itr", name := "next", desc := "()Ljava/lang/Object;" } : Jvm.MethodName) prog_44_method_3_code (3 : Nat) (Option.some (FieldType.object "java/lang/Object"))) ∈ gtbl := gt4 (i := 136) rfl rfl
theorem q_857 : (Cond.methodLink "java/util/ArrayList$Itr" (31 : Nat) ({ cls := "java/util/ArrayList$Itr", name := "checkForComodification", desc := "()V" } : Jvm.MethodName)) ∈ gtbl := gt4 (i := 137) rfl rfl
theorem q_858 : (Cond.instanceMethod ({ cls := "java/util/ArrayList$Itr", name := "checkForComodification", desc := "()V" } : Jvm.MethodName)) ∈ gtbl := gt4 (i := 138) rfl rfl
theorem q_859 : (Cond.selects "java/util/ArrayList$Itr" ({ cls := "java/util/ArrayList$Itr", name := "checkForComodification", desc := "()V" } : Jvm.MethodName) ({ cls := "java/util/ArrayList$Itr", name := "checkForComodification", desc := "()V" } : Jvm.MethodName)) ∈ gtbl := gt4 (i := 139) rfl rfl
theorem q_860 : (Cond.code ({ cls := "java/util/ArrayList$Itr", name := "checkForComodification", desc := "()V" } : Jvm.MethodName) prog_44_method_6_code (1 : Nat) (Option.none : Option FieldType)) ∈ gtbl := gt4 (i := 140) rfl rfl
theorem q_861 : (Cond.classLink "FlatPlanLaw$Plan" (63 : Nat) "FlatPlanLaw$Item") ∈ gtbl := gt4 (i := 141) rfl rfl
theorem q_862 : (Cond.methodLink "FlatPlanLaw$Plan" (65 : Nat) ({ cls := "FlatPlanLaw$Item", name := "copy", desc := "()LFlatPlanLaw$Item;" } : Jvm.MethodName)) ∈ gtbl := gt4 (i := 142) rfl rfl
theorem q_863 : (Cond.instanceMethod ({ cls := "FlatPlanLaw$Item", name := "copy", desc := "()LFlatPlanLaw$Item;" } : Jvm.MethodName)) ∈ gtbl := gt4 (i := 143) rfl rfl
theorem q_864 : (Cond.selects "FlatPlanLaw$Item" ({ cls := "FlatPlanLaw$Item", name := "copy", desc := "()LFlatPlanLaw$Item;" } : Jvm.MethodName) ({ cls := "FlatPlanLaw$Item", name := "copy", desc := "()LFlatPlanLaw$Item;" } : Jvm.MethodName)) ∈ gtbl := gt4 (i := 144) rfl rfl
theorem q_865 : (Cond.code ({ cls := "FlatPlanLaw$Item", name := "copy", desc := "()LFlatPlanLaw$Item;" } : Jvm.MethodName) prog_13_method_2_code (2 : Nat) (Option.some (FieldType.object "FlatPlanLaw$Item"))) ∈ gtbl := gt4 (i := 145) rfl rfl
theorem q_866 : (Cond.classLink "FlatPlanLaw$Item" (7 : Nat) "FlatPlanLaw$Item") ∈ gtbl := gt4 (i := 146) rfl rfl
theorem q_867 : (Cond.instantiable "FlatPlanLaw$Item" (7 : Nat)) ∈ gtbl := gt4 (i := 147) rfl rfl
theorem q_868 : (Cond.methodLink "FlatPlanLaw$Item" (9 : Nat) ({ cls := "FlatPlanLaw$Item", name := "<init>", desc := "()V" } : Jvm.MethodName)) ∈ gtbl := gt4 (i := 148) rfl rfl
theorem q_869 : (Cond.instanceMethod ({ cls := "FlatPlanLaw$Item", name := "<init>", desc := "()V" } : Jvm.MethodName)) ∈ gtbl := gt4 (i := 149) rfl rfl
theorem q_870 : (Cond.code ({ cls := "FlatPlanLaw$Item", name := "<init>", desc := "()V" } : Jvm.MethodName) prog_13_method_1_code (1 : Nat) (Option.none : Option FieldType)) ∈ gtbl := gt4 (i := 150) rfl rfl
theorem q_871 : (Cond.methodLink "FlatPlanLaw$Item" (1 : Nat) ({ cls := "java/lang/Object", name := "<init>", desc := "()V" } : Jvm.MethodName)) ∈ gtbl := gt4 (i := 151) rfl rfl
theorem q_872 : (Cond.fieldLink "FlatPlanLaw$Item" (10 : Nat) "FlatPlanLaw$Item" "size" "I") ∈ gtbl := gt4 (i := 152) rfl rfl
theorem q_873 : (Cond.fieldLink "FlatPlanLaw$Plan" (94 : Nat) "FlatPlanLaw$Item" "size" "I") ∈ gtbl := gt4 (i := 153) rfl rfl
theorem q_874 : (Cond.fieldLink "FlatPlanLaw" (80 : Nat) "FlatPlanLaw$Item" "size" "I") ∈ gtbl := gt4 (i := 154) rfl rfl
theorem q_875 : (Cond.fieldLink "FlatPlanLaw$Item" (14 : Nat) "FlatPlanLaw$Item" "group" "I") ∈ gtbl := gt4 (i := 155) rfl rfl
theorem q_876 : (Cond.fieldLink "FlatPlanLaw" (82 : Nat) "FlatPlanLaw$Item" "group" "I") ∈ gtbl := gt4 (i := 156) rfl rfl
theorem q_877 : (Cond.fieldLink "FlatPlanLaw$Plan" (108 : Nat) "FlatPlanLaw$Item" "group" "I") ∈ gtbl := gt4 (i := 157) rfl rfl
theorem q_878 : (Cond.fieldLink "FlatPlanLaw$Item" (17 : Nat) "FlatPlanLaw$Item" "side" "I") ∈ gtbl := gt4 (i := 158) rfl rfl
theorem q_879 : (Cond.fieldLink "FlatPlanLaw" (89 : Nat) "FlatPlanLaw$Item" "side" "I") ∈ gtbl := gt4 (i := 159) rfl rfl
theorem q_880 : (Cond.fieldLink "FlatPlanLaw$Plan" (105 : Nat) "FlatPlanLaw$Item" "side" "I") ∈ gtbl := gt4 (i := 160) rfl rfl
theorem q_881 : (Cond.fieldLink "FlatPlanLaw$Item" (20 : Nat) "FlatPlanLaw$Item" "price" "I") ∈ gtbl := gt4 (i := 161) rfl rfl
theorem q_882 : (Cond.fieldLink "FlatPlanLaw" (77 : Nat) "FlatPlanLaw$Item" "price" "I") ∈ gtbl := gt4 (i := 162) rfl rfl
theorem q_883 : (Cond.fieldLink "FlatPlanLaw$Plan" (153 : Nat) "FlatPlanLaw$Item" "price" "I") ∈ gtbl := gt4 (i := 163) rfl rfl
theorem q_884 : (Cond.fieldLink "FlatPlanLaw$Item" (23 : Nat) "FlatPlanLaw$Item" "ready" "I") ∈ gtbl := gt4 (i := 164) rfl rfl
theorem q_885 : (Cond.fieldLink "FlatPlanLaw" (92 : Nat) "FlatPlanLaw$Item" "ready" "I") ∈ gtbl := gt4 (i := 165) rfl rfl
theorem q_886 : (Cond.fieldLink "FlatPlanLaw$Plan" (143 : Nat) "FlatPlanLaw$Item" "ready" "I") ∈ gtbl := gt4 (i := 166) rfl rfl
theorem q_887 : (Cond.fieldLink "FlatPlanLaw$Item" (26 : Nat) "FlatPlanLaw$Item" "page" "I") ∈ gtbl := gt4 (i := 167) rfl rfl
theorem q_888 : (Cond.fieldLink "FlatPlanLaw$Plan" (91 : Nat) "FlatPlanLaw$Item" "page" "I") ∈ gtbl := gt4 (i := 168) rfl rfl
theorem q_889 : (Cond.fieldLink "FlatPlanLaw" (75 : Nat) "FlatPlanLaw$Item" "page" "I") ∈ gtbl := gt4 (i := 169) rfl rfl
theorem q_890 : (Cond.fieldLink "FlatPlanLaw$Item" (29 : Nat) "FlatPlanLaw$Item" "color" "Z") ∈ gtbl := gt4 (i := 170) rfl rfl
theorem q_891 : (Cond.fieldLink "FlatPlanLaw" (85 : Nat) "FlatPlanLaw$Item" "color" "Z") ∈ gtbl := gt4 (i := 171) rfl rfl
theorem q_892 : (Cond.fieldLink "FlatPlanLaw$Plan" (121 : Nat) "FlatPlanLaw$Item" "color" "Z") ∈ gtbl := gt4 (i := 172) rfl rfl
theorem q_893 : (Cond.lays "FlatPlanLaw$Item" "FlatPlanLaw$Item" "size" "I") ∈ gtbl := gt4 (i := 173) rfl rfl
theorem q_895 : (Cond.lays "FlatPlanLaw$Item" "FlatPlanLaw$Item" "group" "I") ∈ gtbl := gt4 (i := 175) rfl rfl
theorem q_897 : (Cond.lays "FlatPlanLaw$Item" "FlatPlanLaw$Item" "side" "I") ∈ gtbl := gt4 (i := 177) rfl rfl
theorem q_899 : (Cond.lays "FlatPlanLaw$Item" "FlatPlanLaw$Item" "price" "I") ∈ gtbl := gt4 (i := 179) rfl rfl
theorem q_901 : (Cond.lays "FlatPlanLaw$Item" "FlatPlanLaw$Item" "ready" "I") ∈ gtbl := gt4 (i := 181) rfl rfl
theorem q_903 : (Cond.lays "FlatPlanLaw$Item" "FlatPlanLaw$Item" "page" "I") ∈ gtbl := gt4 (i := 183) rfl rfl
theorem q_905 : (Cond.lays "FlatPlanLaw$Item" "FlatPlanLaw$Item" "color" "Z") ∈ gtbl := gt4 (i := 185) rfl rfl
theorem q_908 : (Cond.methodLink "FlatPlanLaw$Plan" (69 : Nat) ({ cls := "java/util/ArrayList", name := "add", desc := "(Ljava/lang/Object;)Z" } : Jvm.MethodName)) ∈ gtbl := gt4 (i := 188) rfl rfl
theorem q_909 : (Cond.instanceMethod ({ cls := "java/util/ArrayList", name := "add", desc := "(Ljava/lang/Object;)Z" } : Jvm.MethodName)) ∈ gtbl := gt4 (i := 189) rfl rfl
theorem q_910 : (Cond.selects "java/util/ArrayList" ({ cls := "java/util/ArrayList", name := "add", desc := "(Ljava/lang/Object;)Z" } : Jvm.MethodName) ({ cls := "java/util/ArrayList", name := "add", desc := "(Ljava/lang/Object;)Z" } : Jvm.MethodName)) ∈ gtbl := gt4 (i := 190) rfl rfl
theorem q_911 : (Cond.code ({ cls := "java/util/ArrayList", name := "add", desc := "(Ljava/lang/Object;)Z" } : Jvm.MethodName) prog_43_method_25_code (2 : Nat) (Option.some FieldType.boolean)) ∈ gtbl := gt4 (i := 191) rfl rfl
theorem q_912 : (Cond.methodLink "java/util/ArrayList" (131 : Nat) ({ cls := "java/util/ArrayList", name := "add", desc := "(Ljava/lang/Object;[Ljava/lang/Object;I)V" } : Jvm.MethodName)) ∈ gtbl := gt4 (i := 192) rfl rfl
theorem q_914 : (Cond.instanceMethod ({ cls := "java/util/ArrayList", name := "add", desc := "(Ljava/lang/Object;[Ljava/lang/Object;I)V" } : Jvm.MethodName)) ∈ gtbl := gt4 (i := 194) rfl rfl
theorem q_915 : (Cond.code ({ cls := "java/util/ArrayList", name := "add", desc := "(Ljava/lang/Object;[Ljava/lang/Object;I)V" } : Jvm.MethodName) prog_43_method_24_code (4 : Nat) (Option.none : Option FieldType)) ∈ gtbl := gt4 (i := 195) rfl rfl
theorem q_916 : (Cond.methodLink "java/util/ArrayList" (129 : Nat) ({ cls := "java/util/ArrayList", name := "grow", desc := "()[Ljava/lang/Object;" } : Jvm.MethodName)) ∈ gtbl := gt4 (i := 196) rfl rfl
theorem q_918 : (Cond.instanceMethod ({ cls := "java/util/ArrayList", name := "grow", desc := "()[Ljava/lang/Object;" } : Jvm.MethodName)) ∈ gtbl := gt4 (i := 198) rfl rfl
theorem q_919 : (Cond.code ({ cls := "java/util/ArrayList", name := "grow", desc := "()[Ljava/lang/Object;" } : Jvm.MethodName) prog_43_method_7_code (1 : Nat) (Option.some (FieldType.array (FieldType.object "java/lang/Object")))) ∈ gtbl := gt4 (i := 199) rfl rfl
theorem q_920 : (Cond.methodLink "java/util/ArrayList" (69 : Nat) ({ cls := "java/util/ArrayList", name := "grow", desc := "(I)[Ljava/lang/Object;" } : Jvm.MethodName)) ∈ gtbl := gt4 (i := 200) rfl rfl
theorem q_922 : (Cond.instanceMethod ({ cls := "java/util/ArrayList", name := "grow", desc := "(I)[Ljava/lang/Object;" } : Jvm.MethodName)) ∈ gtbl := gt4 (i := 202) rfl rfl
theorem q_923 : (Cond.code ({ cls := "java/util/ArrayList", name := "grow", desc := "(I)[Ljava/lang/Object;" } : Jvm.MethodName) prog_43_method_6_code (4 : Nat) (Option.some (FieldType.array (FieldType.object "java/lang/Object")))) ∈ gtbl := gt4 (i := 203) rfl rfl
theorem q_924 : (Cond.methodLink "java/util/ArrayList" (73 : Nat) ({ cls := "jdk/internal/util/ArraysSupport", name := "newLength", desc := "(III)I" } : Jvm.MethodName)) ∈ gtbl := gt4 (i := 204) rfl rfl
theorem q_925 : (Cond.static ({ cls := "jdk/internal/util/ArraysSupport", name := "newLength", desc := "(III)I" } : Jvm.MethodName)) ∈ gtbl := gt4 (i := 205) rfl rfl
theorem q_926 : (Cond.code ({ cls := "jdk/internal/util/ArraysSupport", name := "newLength", desc := "(III)I" } : Jvm.MethodName) prog_52_method_27_code (4 : Nat) (Option.some FieldType.int)) ∈ gtbl := gt4 (i := 206) rfl rfl
theorem q_927 : (Cond.methodLink "jdk/internal/util/ArraysSupport" (194 : Nat) ({ cls := "java/lang/Math", name := "max", desc := "(II)I" } : Jvm.MethodName)) ∈ gtbl := gt4 (i := 207) rfl rfl
theorem q_928 : (Cond.static ({ cls := "java/lang/Math", name := "max", desc := "(II)I" } : Jvm.MethodName)) ∈ gtbl := gt4 (i := 208) rfl rfl
theorem q_929 : (Cond.code ({ cls := "java/lang/Math", name := "max", desc := "(II)I" } : Jvm.MethodName) prog_30_method_65_code (2 : Nat) (Option.some FieldType.int)) ∈ gtbl := gt4 (i := 209) rfl rfl
theorem q_930 : (Cond.constant "jdk/internal/util/ArraysSupport" (200 : Nat) (2147483639 : Int32)) ∈ gtbl := gt4 (i := 210) rfl rfl
theorem q_931 : (Cond.methodLink "jdk/internal/util/ArraysSupport" (201 : Nat) ({ cls := "jdk/internal/util/ArraysSupport", name := "hugeLength", desc := "(II)I" } : Jvm.MethodName)) ∈ gtbl := gt4 (i := 211) rfl rfl
theorem q_932 : (Cond.static ({ cls := "jdk/internal/util/ArraysSupport", name := "hugeLength", desc := "(II)I" } : Jvm.MethodName)) ∈ gtbl := gt4 (i := 212) rfl rfl
theorem q_933 : (Cond.code ({ cls := "jdk/internal/util/ArraysSupport", name := "hugeLength", desc := "(II)I" } : Jvm.MethodName) prog_52_method_28_code (3 : Nat) (Option.some FieldType.int)) ∈ gtbl := gt4 (i := 213) rfl rfl
theorem q_934 : (Cond.methodLink "java/util/ArrayList" (66 : Nat) ({ cls := "java/util/Arrays", name := "copyOf", desc := "([Ljava/lang/Object;I)[Ljava/lang/Object;" } : Jvm.MethodName)) ∈ gtbl := gt4 (i := 214) rfl rfl
theorem q_935 : (Cond.static ({ cls := "java/util/Arrays", name := "copyOf", desc := "([Ljava/lang/Object;I)[Ljava/lang/Object;" } : Jvm.MethodName)) ∈ gtbl := gt4 (i := 215) rfl rfl
theorem q_936 : (Cond.code ({ cls := "java/util/Arrays", name := "copyOf", desc := "([Ljava/lang/Object;I)[Ljava/lang/Object;" } : Jvm.MethodName) prog_45_method_119_code (2 : Nat) (Option.some (FieldType.array (FieldType.object "java/lang/Object")))) ∈ gtbl := gt4 (i := 216) rfl rfl
theorem q_937 : (Cond.methodLink "java/util/Arrays" (86 : Nat) ({ cls := "java/lang/Object", name := "getClass", desc := "()Ljava/lang/Class;" } : Jvm.MethodName)) ∈ gtbl := gt4 (i := 217) rfl rfl
theorem q_938 : (Cond.instanceMethod ({ cls := "java/lang/Object", name := "getClass", desc := "()Ljava/lang/Class;" } : Jvm.MethodName)) ∈ gtbl := gt4 (i := 218) rfl rfl
theorem q_940 : (Cond.selects "FlatPlan" ({ cls := "java/lang/Object", name := "getClass", desc := "()Ljava/lang/Class;" } : Jvm.MethodName) ({ cls := "java/lang/Object", name := "getClass", desc := "()Ljava/lang/Class;" } : Jvm.MethodName)) ∈ gtbl := gt4 (i := 220) rfl rfl
theorem q_941 : (Cond.selects "FlatPlan$Ads" ({ cls := "java/lang/Object", name := "getClass", desc := "()Ljava/lang/Class;" } : Jvm.MethodName) ({ cls := "java/lang/Object", name := "getClass", desc := "()Ljava/lang/Class;" } : Jvm.MethodName)) ∈ gtbl := gt4 (i := 221) rfl rfl
theorem q_942 : (Cond.selects "FlatPlan$Bytes" ({ cls := "java/lang/Object", name := "getClass", desc := "()Ljava/lang/Class;" } : Jvm.MethodName) ({ cls := "java/lang/Object", name := "getClass", desc := "()Ljava/lang/Class;" } : Jvm.MethodName)) ∈ gtbl := gt4 (i := 222) rfl rfl
theorem q_943 : (Cond.selects "FlatPlan$Forms" ({ cls := "java/lang/Object", name := "getClass", desc := "()Ljava/lang/Class;" } : Jvm.MethodName) ({ cls := "java/lang/Object", name := "getClass", desc := "()Ljava/lang/Class;" } : Jvm.MethodName)) ∈ gtbl := gt4 (i := 223) rfl rfl
theorem q_944 : (Cond.selects "FlatPlan$History" ({ cls := "java/lang/Object", name := "getClass", desc := "()Ljava/lang/Class;" } : Jvm.MethodName) ({ cls := "java/lang/Object", name := "getClass", desc := "()Ljava/lang/Class;" } : Jvm.MethodName)) ∈ gtbl := gt4 (i := 224) rfl rfl
theorem q_945 : (Cond.selects "FlatPlan$Plan" ({ cls := "java/lang/Object", name := "getClass", desc := "()Ljava/lang/Class;" } : Jvm.MethodName) ({ cls := "java/lang/Object", name := "getClass", desc := "()Ljava/lang/Class;" } : Jvm.MethodName)) ∈ gtbl := gt4 (i := 225) rfl rfl
theorem q_946 : (Cond.selects "FlatPlan$Reader" ({ cls := "java/lang/Object", name := "getClass", desc := "()Ljava/lang/Class;" } : Jvm.MethodName) ({ cls := "java/lang/Object", name := "getClass", desc := "()Ljava/lang/Class;" } : Jvm.MethodName)) ∈ gtbl := gt4 (i := 226) rfl rfl
theorem q_947 : (Cond.selects "FlatPlan$Searches" ({ cls := "java/lang/Object", name := "getClass", desc := "()Ljava/lang/Class;" } : Jvm.MethodName) ({ cls := "java/lang/Object", name := "getClass", desc := "()Ljava/lang/Class;" } : Jvm.MethodName)) ∈ gtbl := gt4 (i := 227) rfl rfl
theorem q_948 : (Cond.selects "FlatPlan$Standbys" ({ cls := "java/lang/Object", name := "getClass", desc := "()Ljava/lang/Class;" } : Jvm.MethodName) ({ cls := "java/lang/Object", name := "getClass", desc := "()Ljava/lang/Class;" } : Jvm.MethodName)) ∈ gtbl := gt4 (i := 228) rfl rfl
theorem q_949 : (Cond.selects "FlatPlan$State" ({ cls := "java/lang/Object", name := "getClass", desc := "()Ljava/lang/Class;" } : Jvm.MethodName) ({ cls := "java/lang/Object", name := "getClass", desc := "()Ljava/lang/Class;" } : Jvm.MethodName)) ∈ gtbl := gt4 (i := 229) rfl rfl
theorem q_950 : (Cond.selects "FlatPlan$Stories" ({ cls := "java/lang/Object", name := "getClass", desc := "()Ljava/lang/Class;" } : Jvm.MethodName) ({ cls := "java/lang/Object", name := "getClass", desc := "()Ljava/lang/Class;" } : Jvm.MethodName)) ∈ gtbl := gt4 (i := 230) rfl rfl
theorem q_951 : (Cond.selects "FlatPlanLaw$Item" ({ cls := "java/lang/Object", name := "getClass", desc := "()Ljava/lang/Class;" } : Jvm.MethodName) ({ cls := "java/lang/Object", name := "getClass", desc := "()Ljava/lang/Class;" } : Jvm.MethodName)) ∈ gtbl := gt4 (i := 231) rfl rfl
theorem q_952 : (Cond.selects "FlatPlanLaw$Plan" ({ cls := "java/lang/Object", name := "getClass", desc := "()Ljava/lang/Class;" } : Jvm.MethodName) ({ cls := "java/lang/Object", name := "getClass", desc := "()Ljava/lang/Class;" } : Jvm.MethodName)) ∈ gtbl := gt4 (i := 232) rfl rfl
theorem q_953 : (Cond.selects "java/lang/ArithmeticException" ({ cls := "java/lang/Object", name := "getClass", desc := "()Ljava/lang/Class;" } : Jvm.MethodName) ({ cls := "java/lang/Object", name := "getClass", desc := "()Ljava/lang/Class;" } : Jvm.MethodName)) ∈ gtbl := gt4 (i := 233) rfl rfl
theorem q_954 : (Cond.selects "java/lang/ArrayIndexOutOfBoundsException" ({ cls := "java/lang/Object", name := "getClass", desc := "()Ljava/lang/Class;" } : Jvm.MethodName) ({ cls := "java/lang/Object", name := "getClass", desc := "()Ljava/lang/Class;" } : Jvm.MethodName)) ∈ gtbl := gt4 (i := 234) rfl rfl
theorem q_955 : (Cond.selects "java/lang/IllegalArgumentException" ({ cls := "java/lang/Object", name := "getClass", desc := "()Ljava/lang/Class;" } : Jvm.MethodName) ({ cls := "java/lang/Object", name := "getClass", desc := "()Ljava/lang/Class;" } : Jvm.MethodName)) ∈ gtbl := gt4 (i := 235) rfl rfl
theorem q_956 : (Cond.selects "java/lang/IndexOutOfBoundsException" ({ cls := "java/lang/Object", name := "getClass", desc := "()Ljava/lang/Class;" } : Jvm.MethodName) ({ cls := "java/lang/Object", name := "getClass", desc := "()Ljava/lang/Class;" } : Jvm.MethodName)) ∈ gtbl := gt4 (i := 236) rfl rfl
theorem q_957 : (Cond.selects "java/lang/Integer" ({ cls := "java/lang/Object", name := "getClass", desc := "()Ljava/lang/Class;" } : Jvm.MethodName) ({ cls := "java/lang/Object", name := "getClass", desc := "()Ljava/lang/Class;" } : Jvm.MethodName)) ∈ gtbl := gt4 (i := 237) rfl rfl
theorem q_958 : (Cond.selects "java/lang/String" ({ cls := "java/lang/Object", name := "getClass", desc := "()Ljava/lang/Class;" } : Jvm.MethodName) ({ cls := "java/lang/Object", name := "getClass", desc := "()Ljava/lang/Class;" } : Jvm.MethodName)) ∈ gtbl := gt4 (i := 238) rfl rfl
theorem q_959 : (Cond.selects "java/lang/StringBuilder" ({ cls := "java/lang/Object", name := "getClass", desc := "()Ljava/lang/Class;" } : Jvm.MethodName) ({ cls := "java/lang/Object", name := "getClass", desc := "()Ljava/lang/Class;" } : Jvm.MethodName)) ∈ gtbl := gt4 (i := 239) rfl rfl
theorem q_960 : (Cond.selects "java/util/ArrayList" ({ cls := "java/lang/Object", name := "getClass", desc := "()Ljava/lang/Class;" } : Jvm.MethodName) ({ cls := "java/lang/Object", name := "getClass", desc := "()Ljava/lang/Class;" } : Jvm.MethodName)) ∈ gtbl := gt5 (i := 0) rfl rfl
theorem q_961 : (Cond.selects "java/util/ArrayList$Itr" ({ cls := "java/lang/Object", name := "getClass", desc := "()Ljava/lang/Class;" } : Jvm.MethodName) ({ cls := "java/lang/Object", name := "getClass", desc := "()Ljava/lang/Class;" } : Jvm.MethodName)) ∈ gtbl := gt5 (i := 1) rfl rfl
theorem q_962 : (Cond.native ({ cls := "java/lang/Object", name := "getClass", desc := "()Ljava/lang/Class;" } : Jvm.MethodName)) ∈ gtbl := gt5 (i := 2) rfl rfl
theorem q_963 : (Cond.methodLink "java/util/Arrays" (300 : Nat) ({ cls := "java/util/Arrays", name := "copyOf", desc := "([Ljava/lang/Object;ILjava/lang/Class;)[Ljava/lang/Object;" } : Jvm.MethodName)) ∈ gtbl := gt5 (i := 3) rfl rfl
theorem q_964 : (Cond.static ({ cls := "java/util/Arrays", name := "copyOf", desc := "([Ljava/lang/Object;ILjava/lang/Class;)[Ljava/lang/Object;" } : Jvm.MethodName)) ∈ gtbl := gt5 (i := 4) rfl rfl
theorem q_965 : (Cond.code ({ cls := "java/util/Arrays", name := "copyOf", desc := "([Ljava/lang/Object;ILjava/lang/Class;)[Ljava/lang/Object;" } : Jvm.MethodName) prog_45_method_120_code (4 : Nat) (Option.some (FieldType.array (FieldType.object "java/lang/Object")))) ∈ gtbl := gt5 (i := 5) rfl rfl
theorem q_966 : (Cond.classLink "java/util/Arrays" (110 : Nat) "[Ljava/lang/Object;") ∈ gtbl := gt5 (i := 6) rfl rfl
theorem q_968 : (Cond.classLink "java/util/Arrays" (2 : Nat) "java/lang/Object") ∈ gtbl := gt5 (i := 8) rfl rfl
theorem q_969 : (Cond.methodLink "java/util/Arrays" (304 : Nat) ({ cls := "java/lang/Math", name := "min", desc := "(II)I" } : Jvm.MethodName)) ∈ gtbl := gt5 (i := 9) rfl rfl
theorem q_970 : (Cond.methodLink "java/util/Arrays" (150 : Nat) ({ cls := "java/lang/System", name := "arraycopy", desc := "(Ljava/lang/Object;ILjava/lang/Object;II)V" } : Jvm.MethodName)) ∈ gtbl := gt5 (i := 10) rfl rfl
theorem q_971 : (Cond.methodLink "java/util/ArrayList" (79 : Nat) ({ cls := "java/lang/Math", name := "max", desc := "(II)I" } : Jvm.MethodName)) ∈ gtbl := gt5 (i := 11) rfl rfl
theorem q_972 : (Cond.classLink "java/util/ArrayList" (7 : Nat) "java/lang/Object") ∈ gtbl := gt5 (i := 12) rfl rfl
theorem q_973 : (Cond.methodLink "FlatPlanLaw$Plan" (73 : Nat) ({ cls := "[Z", name := "clone", desc := "()Ljava/lang/Object;" } : Jvm.MethodName)) ∈ gtbl := gt5 (i := 13) rfl rfl
theorem q_975 : (Cond.native ({ cls := "java/lang/Object", name := "clone", desc := "()Ljava/lang/Object;" } : Jvm.MethodName)) ∈ gtbl := gt5 (i := 15) rfl rfl
theorem q_976 : (Cond.instanceMethod ({ cls := "java/lang/Object", name := "clone", desc := "()Ljava/lang/Object;" } : Jvm.MethodName)) ∈ gtbl := gt5 (i := 16) rfl rfl
theorem q_977 : (Cond.selects "[Z" ({ cls := "[Z", name := "clone", desc := "()Ljava/lang/Object;" } : Jvm.MethodName) ({ cls := "java/lang/Object", name := "clone", desc := "()Ljava/lang/Object;" } : Jvm.MethodName)) ∈ gtbl := gt5 (i := 17) rfl rfl
theorem q_979 : (Cond.classLink "FlatPlanLaw$Plan" (74 : Nat) "[Z") ∈ gtbl := gt5 (i := 19) rfl rfl
theorem q_980 : (Cond.methodLink "FlatPlanLaw$Plan" (77 : Nat) ({ cls := "[I", name := "clone", desc := "()Ljava/lang/Object;" } : Jvm.MethodName)) ∈ gtbl := gt5 (i := 20) rfl rfl
theorem q_982 : (Cond.selects "[I" ({ cls := "[I", name := "clone", desc := "()Ljava/lang/Object;" } : Jvm.MethodName) ({ cls := "java/lang/Object", name := "clone", desc := "()Ljava/lang/Object;" } : Jvm.MethodName)) ∈ gtbl := gt5 (i := 22) rfl rfl
theorem q_984 : (Cond.classLink "FlatPlanLaw$Plan" (78 : Nat) "[I") ∈ gtbl := gt5 (i := 24) rfl rfl
theorem q_985 : (Cond.methodLink "FlatPlanLaw" (362 : Nat) ({ cls := "FlatPlanLaw", name := "pick", desc := "([II)I" } : Jvm.MethodName)) ∈ gtbl := gt5 (i := 25) rfl rfl
theorem q_986 : (Cond.static ({ cls := "FlatPlanLaw", name := "pick", desc := "([II)I" } : Jvm.MethodName)) ∈ gtbl := gt5 (i := 26) rfl rfl
theorem q_987 : (Cond.code ({ cls := "FlatPlanLaw", name := "pick", desc := "([II)I" } : Jvm.MethodName) method_2_code (2 : Nat) (Option.some FieldType.int)) ∈ gtbl := gt5 (i := 27) rfl rfl
theorem q_988 : (Cond.constant "FlatPlanLaw" (7 : Nat) (2147483647 : Int32)) ∈ gtbl := gt5 (i := 28) rfl rfl
theorem q_989 : (Cond.methodLink "FlatPlanLaw" (479 : Nat) ({ cls := "FlatPlanLaw", name := "input", desc := "(LFlatPlan;Ljava/lang/String;)V" } : Jvm.MethodName)) ∈ gtbl := gt5 (i := 29) rfl rfl
theorem q_990 : (Cond.static ({ cls := "FlatPlanLaw", name := "input", desc := "(LFlatPlan;Ljava/lang/String;)V" } : Jvm.MethodName)) ∈ gtbl := gt5 (i := 30) rfl rfl
theorem q_991 : (Cond.code ({ cls := "FlatPlanLaw", name := "input", desc := "(LFlatPlan;Ljava/lang/String;)V" } : Jvm.MethodName) method_3_code (5 : Nat) (Option.none : Option FieldType)) ∈ gtbl := gt5 (i := 31) rfl rfl
theorem q_992 : (Cond.methodLink "FlatPlanLaw" (8 : Nat) ({ cls := "FlatPlan", name := "truncateInput", desc := "(I)I" } : Jvm.MethodName)) ∈ gtbl := gt5 (i := 32) rfl rfl
theorem q_993 : (Cond.instanceMethod ({ cls := "FlatPlan", name := "truncateInput", desc := "(I)I" } : Jvm.MethodName)) ∈ gtbl := gt5 (i := 33) rfl rfl
theorem q_994 : (Cond.selects "FlatPlan" ({ cls := "FlatPlan", name := "truncateInput", desc := "(I)I" } : Jvm.MethodName) ({ cls := "FlatPlan", name := "truncateInput", desc := "(I)I" } : Jvm.MethodName)) ∈ gtbl := gt5 (i := 34) rfl rfl
theorem q_995 : (Cond.code ({ cls := "FlatPlan", name := "truncateInput", desc := "(I)I" } : Jvm.MethodName) prog_1_method_3_code (2 : Nat) (Option.some FieldType.int)) ∈ gtbl := gt5 (i := 35) rfl rfl
theorem q_996 : (Cond.methodLink "FlatPlanLaw" (14 : Nat) ({ cls := "java/lang/String", name := "length", desc := "()I" } : Jvm.MethodName)) ∈ gtbl := gt5 (i := 36) rfl rfl
theorem q_997 : (Cond.methodLink "FlatPlanLaw" (20 : Nat) ({ cls := "java/lang/String", name := "charAt", desc := "(I)C" } : Jvm.MethodName)) ∈ gtbl := gt5 (i := 37) rfl rfl
theorem q_998 : (Cond.methodLink "FlatPlanLaw" (24 : Nat) ({ cls := "FlatPlan", name := "appendInput", desc := "(IIIII)I" } : Jvm.MethodName)) ∈ gtbl := gt5 (i := 38) rfl rfl
theorem q_999 : (Cond.instanceMethod ({ cls := "FlatPlan", name := "appendInput", desc := "(IIIII)I" } : Jvm.MethodName)) ∈ gtbl := gt5 (i := 39) rfl rfl
theorem q_1000 : (Cond.selects "FlatPlan" ({ cls := "FlatPlan", name := "appendInput", desc := "(IIIII)I" } : Jvm.MethodName) ({ cls := "FlatPlan", name := "appendInput", desc := "(IIIII)I" } : Jvm.MethodName)) ∈ gtbl := gt5 (i := 40) rfl rfl
theorem q_1001 : (Cond.code ({ cls := "FlatPlan", name := "appendInput", desc := "(IIIII)I" } : Jvm.MethodName) prog_1_method_2_code (6 : Nat) (Option.some FieldType.int)) ∈ gtbl := gt5 (i := 41) rfl rfl
theorem q_1002 : (Cond.methodLink "FlatPlan" (54 : Nat) ({ cls := "FlatPlan$Bytes", name := "addWord", desc := "(I)V" } : Jvm.MethodName)) ∈ gtbl := gt5 (i := 42) rfl rfl
theorem q_1003 : (Cond.instanceMethod ({ cls := "FlatPlan$Bytes", name := "addWord", desc := "(I)V" } : Jvm.MethodName)) ∈ gtbl := gt5 (i := 43) rfl rfl
theorem q_1004 : (Cond.selects "FlatPlan$Bytes" ({ cls := "FlatPlan$Bytes", name := "addWord", desc := "(I)V" } : Jvm.MethodName) ({ cls := "FlatPlan$Bytes", name := "addWord", desc := "(I)V" } : Jvm.MethodName)) ∈ gtbl := gt5 (i := 44) rfl rfl
theorem q_1005 : (Cond.code ({ cls := "FlatPlan$Bytes", name := "addWord", desc := "(I)V" } : Jvm.MethodName) prog_3_method_3_code (2 : Nat) (Option.none : Option FieldType)) ∈ gtbl := gt5 (i := 45) rfl rfl
theorem q_1006 : (Cond.methodLink "FlatPlan$Bytes" (19 : Nat) ({ cls := "FlatPlan$Bytes", name := "addByte", desc := "(I)V" } : Jvm.MethodName)) ∈ gtbl := gt5 (i := 46) rfl rfl
theorem q_1007 : (Cond.instanceMethod ({ cls := "FlatPlan$Bytes", name := "addByte", desc := "(I)V" } : Jvm.MethodName)) ∈ gtbl := gt5 (i := 47) rfl rfl
theorem q_1008 : (Cond.selects "FlatPlan$Bytes" ({ cls := "FlatPlan$Bytes", name := "addByte", desc := "(I)V" } : Jvm.MethodName) ({ cls := "FlatPlan$Bytes", name := "addByte", desc := "(I)V" } : Jvm.MethodName)) ∈ gtbl := gt5 (i := 48) rfl rfl
theorem q_1009 : (Cond.code ({ cls := "FlatPlan$Bytes", name := "addByte", desc := "(I)V" } : Jvm.MethodName) prog_3_method_2_code (2 : Nat) (Option.none : Option FieldType)) ∈ gtbl := gt5 (i := 49) rfl rfl
theorem q_1010 : (Cond.methodLink "FlatPlanLaw" (459 : Nat) ({ cls := "FlatPlanLaw", name := "same", desc := "(LFlatPlan;LFlatPlanLaw$Plan;I)Z" } : Jvm.MethodName)) ∈ gtbl := gt5 (i := 50) rfl rfl
theorem q_1011 : (Cond.static ({ cls := "FlatPlanLaw", name := "same", desc := "(LFlatPlan;LFlatPlanLaw$Plan;I)Z" } : Jvm.MethodName)) ∈ gtbl := gt5 (i := 51) rfl rfl
theorem q_1012 : (Cond.code ({ cls := "FlatPlanLaw", name := "same", desc := "(LFlatPlan;LFlatPlanLaw$Plan;I)Z" } : Jvm.MethodName) method_7_code (11 : Nat) (Option.some FieldType.boolean)) ∈ gtbl := gt5 (i := 52) rfl rfl
theorem q_1013 : (Cond.methodLink "FlatPlanLaw" (42 : Nat) ({ cls := "FlatPlanLaw$Plan", name := "pages", desc := "()I" } : Jvm.MethodName)) ∈ gtbl := gt5 (i := 53) rfl rfl
theorem q_1014 : (Cond.instanceMethod ({ cls := "FlatPlanLaw$Plan", name := "pages", desc := "()I" } : Jvm.MethodName)) ∈ gtbl := gt5 (i := 54) rfl rfl
theorem q_1015 : (Cond.selects "FlatPlanLaw$Plan" ({ cls := "FlatPlanLaw$Plan", name := "pages", desc := "()I" } : Jvm.MethodName) ({ cls := "FlatPlanLaw$Plan", name := "pages", desc := "()I" } : Jvm.MethodName)) ∈ gtbl := gt5 (i := 55) rfl rfl
theorem q_1016 : (Cond.code ({ cls := "FlatPlanLaw$Plan", name := "pages", desc := "()I" } : Jvm.MethodName) prog_14_method_3_code (1 : Nat) (Option.some FieldType.int)) ∈ gtbl := gt5 (i := 56) rfl rfl
theorem q_1017 : (Cond.methodLink "FlatPlanLaw" (55 : Nat) ({ cls := "java/util/ArrayList", name := "size", desc := "()I" } : Jvm.MethodName)) ∈ gtbl := gt5 (i := 57) rfl rfl
theorem q_1018 : (Cond.instanceMethod ({ cls := "java/util/ArrayList", name := "size", desc := "()I" } : Jvm.MethodName)) ∈ gtbl := gt5 (i := 58) rfl rfl
theorem q_1019 : (Cond.selects "java/util/ArrayList" ({ cls := "java/util/ArrayList", name := "size", desc := "()I" } : Jvm.MethodName) ({ cls := "java/util/ArrayList", name := "size", desc := "()I" } : Jvm.MethodName)) ∈ gtbl := gt5 (i := 59) rfl rfl
theorem q_1020 : (Cond.code ({ cls := "java/util/ArrayList", name := "size", desc := "()I" } : Jvm.MethodName) prog_43_method_8_code (1 : Nat) (Option.some FieldType.int)) ∈ gtbl := gt5 (i := 60) rfl rfl
theorem q_1021 : (Cond.methodLink "FlatPlanLaw" (69 : Nat) ({ cls := "java/util/ArrayList", name := "get", desc := "(I)Ljava/lang/Object;" } : Jvm.MethodName)) ∈ gtbl := gt5 (i := 61) rfl rfl
theorem q_1022 : (Cond.instanceMethod ({ cls := "java/util/ArrayList", name := "get", desc := "(I)Ljava/lang/Object;" } : Jvm.MethodName)) ∈ gtbl := gt5 (i := 62) rfl rfl
theorem q_1023 : (Cond.selects "java/util/ArrayList" ({ cls := "java/util/ArrayList", name := "get", desc := "(I)Ljava/lang/Object;" } : Jvm.MethodName) ({ cls := "java/util/ArrayList", name := "get", desc := "(I)Ljava/lang/Object;" } : Jvm.MethodName)) ∈ gtbl := gt5 (i := 63) rfl rfl
theorem q_1024 : (Cond.code ({ cls := "java/util/ArrayList", name := "get", desc := "(I)Ljava/lang/Object;" } : Jvm.MethodName) prog_43_method_20_code (2 : Nat) (Option.some (FieldType.object "java/lang/Object"))) ∈ gtbl := gt5 (i := 64) rfl rfl
theorem q_1025 : (Cond.methodLink "java/util/ArrayList" (118 : Nat) ({ cls := "java/util/Objects", name := "checkIndex", desc := "(II)I" } : Jvm.MethodName)) ∈ gtbl := gt5 (i := 65) rfl rfl
theorem q_1026 : (Cond.static ({ cls := "java/util/Objects", name := "checkIndex", desc := "(II)I" } : Jvm.MethodName)) ∈ gtbl := gt5 (i := 66) rfl rfl
theorem q_1027 : (Cond.code ({ cls := "java/util/Objects", name := "checkIndex", desc := "(II)I" } : Jvm.MethodName) prog_49_method_17_code (2 : Nat) (Option.some FieldType.int)) ∈ gtbl := gt5 (i := 67) rfl rfl
theorem q_1028 : (Cond.methodLink "java/util/Objects" (105 : Nat) ({ cls := "jdk/internal/util/Preconditions", name := "checkIndex", desc := "(IILjava/util/function/BiFunction;)I" } : Jvm.MethodName)) ∈ gtbl := gt5 (i := 68) rfl rfl
theorem q_1029 : (Cond.methodLink "java/util/ArrayList" (123 : Nat) ({ cls := "java/util/ArrayList", name := "elementData", desc := "(I)Ljava/lang/Object;" } : Jvm.MethodName)) ∈ gtbl := gt5 (i := 69) rfl rfl
theorem q_1030 : (Cond.instanceMethod ({ cls := "java/util/ArrayList", name := "elementData", desc := "(I)Ljava/lang/Object;" } : Jvm.MethodName)) ∈ gtbl := gt5 (i := 70) rfl rfl
theorem q_1031 : (Cond.selects "java/util/ArrayList" ({ cls := "java/util/ArrayList", name := "elementData", desc := "(I)Ljava/lang/Object;" } : Jvm.MethodName) ({ cls := "java/util/ArrayList", name := "elementData", desc := "(I)Ljava/lang/Object;" } : Jvm.MethodName)) ∈ gtbl := gt5 (i := 71) rfl rfl
theorem q_1032 : (Cond.code ({ cls := "java/util/ArrayList", name := "elementData", desc := "(I)Ljava/lang/Object;" } : Jvm.MethodName) prog_43_method_18_code (2 : Nat) (Option.some (FieldType.object "java/lang/Object"))) ∈ gtbl := gt5 (i := 72) rfl rfl
theorem q_1033 : (Cond.classLink "FlatPlanLaw" (73 : Nat) "FlatPlanLaw$Item") ∈ gtbl := gt5 (i := 73) rfl rfl
theorem q_1034 : (Cond.methodLink "FlatPlanLaw" (95 : Nat) ({ cls := "FlatPlanLaw", name := "told", desc := "(I)I" } : Jvm.MethodName)) ∈ gtbl := gt5 (i := 74) rfl rfl
theorem q_1035 : (Cond.static ({ cls := "FlatPlanLaw", name := "told", desc := "(I)I" } : Jvm.MethodName)) ∈ gtbl := gt5 (i := 75) rfl rfl
theorem q_1036 : (Cond.code ({ cls := "FlatPlanLaw", name := "told", desc := "(I)I" } : Jvm.MethodName) method_6_code (1 : Nat) (Option.some FieldType.int)) ∈ gtbl := gt5 (i := 76) rfl rfl
theorem q_1037 : (Cond.methodLink "FlatPlanLaw" (98 : Nat) ({ cls := "FlatPlan", name := "ad", desc := "(II)I" } : Jvm.MethodName)) ∈ gtbl := gt5 (i := 77) rfl rfl
theorem q_1038 : (Cond.instanceMethod ({ cls := "FlatPlan", name := "ad", desc := "(II)I" } : Jvm.MethodName)) ∈ gtbl := gt5 (i := 78) rfl rfl
theorem q_1039 : (Cond.selects "FlatPlan" ({ cls := "FlatPlan", name := "ad", desc := "(II)I" } : Jvm.MethodName) ({ cls := "FlatPlan", name := "ad", desc := "(II)I" } : Jvm.MethodName)) ∈ gtbl := gt5 (i := 79) rfl rfl
theorem q_1040 : (Cond.code ({ cls := "FlatPlan", name := "ad", desc := "(II)I" } : Jvm.MethodName) prog_1_method_12_code (4 : Nat) (Option.some FieldType.int)) ∈ gtbl := gt5 (i := 80) rfl rfl
theorem q_1041 : (Cond.methodLink "FlatPlan" (162 : Nat) ({ cls := "FlatPlan", name := "needAd", desc := "(I)V" } : Jvm.MethodName)) ∈ gtbl := gt5 (i := 81) rfl rfl
theorem q_1043 : (Cond.instanceMethod ({ cls := "FlatPlan", name := "needAd", desc := "(I)V" } : Jvm.MethodName)) ∈ gtbl := gt5 (i := 83) rfl rfl
theorem q_1044 : (Cond.code ({ cls := "FlatPlan", name := "needAd", desc := "(I)V" } : Jvm.MethodName) prog_1_method_63_code (2 : Nat) (Option.none : Option FieldType)) ∈ gtbl := gt5 (i := 84) rfl rfl
theorem q_1045 : (Cond.classLink "FlatPlan" (363 : Nat) "java/lang/IndexOutOfBoundsException") ∈ gtbl := gt5 (i := 85) rfl rfl
theorem q_1046 : (Cond.instantiable "java/lang/IndexOutOfBoundsException" (6 : Nat)) ∈ gtbl := gt5 (i := 86) rfl rfl
theorem q_1054 : (Cond.selects "java/lang/IndexOutOfBoundsException" ({ cls := "java/lang/Throwable", name := "fillInStackTrace", desc := "(I)Ljava/lang/Throwable;" } : Jvm.MethodName) ({ cls := "java/lang/Throwable", name := "fillInStackTrace", desc := "(I)Ljava/lang/Throwable;" } : Jvm.MethodName)) ∈ gtbl := gt5 (i := 94) rfl rfl
theorem q_1055 : (Cond.selects "java/lang/IndexOutOfBoundsException" ({ cls := "java/lang/Throwable", name := "fillInStackTrace", desc := "()Ljava/lang/Throwable;" } : Jvm.MethodName) ({ cls := "java/lang/Throwable", name := "fillInStackTrace", desc := "()Ljava/lang/Throwable;" } : Jvm.MethodName)) ∈ gtbl := gt5 (i := 95) rfl rfl
theorem q_1056 : (Cond.lays "java/lang/IndexOutOfBoundsException" "java/lang/Throwable" "cause" "Ljava/lang/Throwable;") ∈ gtbl := gt5 (i := 96) rfl rfl
theorem q_1057 : (Cond.lays "java/lang/Throwable" "java/lang/Throwable" "cause" "Ljava/lang/Throwable;") ∈ gtbl := gt5 (i := 97) rfl rfl
theorem q_1058 : (Cond.lays "java/lang/IndexOutOfBoundsException" "java/lang/Throwable" "stackTrace" "[Ljava/lang/StackTraceElement;") ∈ gtbl := gt5 (i := 98) rfl rfl
theorem q_1059 : (Cond.lays "java/lang/Throwable" "java/lang/Throwable" "stackTrace" "[Ljava/lang/StackTraceElement;") ∈ gtbl := gt5 (i := 99) rfl rfl
theorem q_1060 : (Cond.lays "java/lang/IndexOutOfBoundsException" "java/lang/Throwable" "suppressedExceptions" "Ljava/util/List;") ∈ gtbl := gt5 (i := 100) rfl rfl
theorem q_1061 : (Cond.lays "java/lang/Throwable" "java/lang/Throwable" "suppressedExceptions" "Ljava/util/List;") ∈ gtbl := gt5 (i := 101) rfl rfl
theorem q_1062 : (Cond.lays "java/lang/IndexOutOfBoundsException" "java/lang/Throwable" "detailMessage" "Ljava/lang/String;") ∈ gtbl := gt5 (i := 102) rfl rfl
theorem q_1063 : (Cond.lays "java/lang/Throwable" "java/lang/Throwable" "detailMessage" "Ljava/lang/String;") ∈ gtbl := gt5 (i := 103) rfl rfl
theorem q_1064 : (Cond.lays "java/lang/IndexOutOfBoundsException" "java/lang/Throwable" "backtrace" "Ljava/lang/Object;") ∈ gtbl := gt5 (i := 104) rfl rfl
theorem q_1065 : (Cond.lays "java/lang/Throwable" "java/lang/Throwable" "backtrace" "Ljava/lang/Object;") ∈ gtbl := gt5 (i := 105) rfl rfl
theorem q_1066 : (Cond.fieldLink "java/lang/Throwable" (198 : Nat) "java/lang/Throwable" "backtrace" "Ljava/lang/Object;") ∈ gtbl := gt5 (i := 106) rfl rfl
theorem q_1068 : (Cond.instanceMethod ({ cls := "java/lang/Throwable", name := "<init>", desc := "()V" } : Jvm.MethodName)) ∈ gtbl := gt5 (i := 108) rfl rfl
theorem q_1069 : (Cond.code ({ cls := "java/lang/Throwable", name := "<init>", desc := "()V" } : Jvm.MethodName) prog_38_method_1_code (1 : Nat) (Option.none : Option FieldType)) ∈ gtbl := gt5 (i := 109) rfl rfl
theorem q_1070 : (Cond.methodLink "java/lang/Throwable" (1 : Nat) ({ cls := "java/lang/Object", name := "<init>", desc := "()V" } : Jvm.MethodName)) ∈ gtbl := gt5 (i := 110) rfl rfl
theorem q_1071 : (Cond.fieldLink "java/lang/Throwable" (13 : Nat) "java/lang/Throwable" "UNASSIGNED_STACK" "[Ljava/lang/StackTraceElement;") ∈ gtbl := gt5 (i := 111) rfl rfl
theorem q_1073 : (Cond.fieldLink "java/lang/Throwable" (20 : Nat) "java/lang/Throwable" "SUPPRESSED_SENTINEL" "Ljava/util/List;") ∈ gtbl := gt5 (i := 113) rfl rfl
theorem q_1075 : (Cond.methodLink "java/lang/Throwable" (27 : Nat) ({ cls := "java/lang/Throwable", name := "fillInStackTrace", desc := "()Ljava/lang/Throwable;" } : Jvm.MethodName)) ∈ gtbl := gt5 (i := 115) rfl rfl
theorem q_1076 : (Cond.instanceMethod ({ cls := "java/lang/Throwable", name := "fillInStackTrace", desc := "()Ljava/lang/Throwable;" } : Jvm.MethodName)) ∈ gtbl := gt5 (i := 116) rfl rfl
theorem q_1078 : (Cond.selects "java/lang/ArithmeticException" ({ cls := "java/lang/Throwable", name := "fillInStackTrace", desc := "()Ljava/lang/Throwable;" } : Jvm.MethodName) ({ cls := "java/lang/Throwable", name := "fillInStackTrace", desc := "()Ljava/lang/Throwable;" } : Jvm.MethodName)) ∈ gtbl := gt5 (i := 118) rfl rfl
theorem q_1079 : (Cond.selects "java/lang/ArrayIndexOutOfBoundsException" ({ cls := "java/lang/Throwable", name := "fillInStackTrace", desc := "()Ljava/lang/Throwable;" } : Jvm.MethodName) ({ cls := "java/lang/Throwable", name := "fillInStackTrace", desc := "()Ljava/lang/Throwable;" } : Jvm.MethodName)) ∈ gtbl := gt5 (i := 119) rfl rfl
theorem q_1080 : (Cond.selects "java/lang/IllegalArgumentException" ({ cls := "java/lang/Throwable", name := "fillInStackTrace", desc := "()Ljava/lang/Throwable;" } : Jvm.MethodName) ({ cls := "java/lang/Throwable", name := "fillInStackTrace", desc := "()Ljava/lang/Throwable;" } : Jvm.MethodName)) ∈ gtbl := gt5 (i := 120) rfl rfl
theorem q_1082 : (Cond.methodLink "java/lang/Throwable" (202 : Nat) ({ cls := "java/lang/Throwable", name := "fillInStackTrace", desc := "(I)Ljava/lang/Throwable;" } : Jvm.MethodName)) ∈ gtbl := gt5 (i := 122) rfl rfl
theorem q_1084 : (Cond.instanceMethod ({ cls := "java/lang/Throwable", name := "fillInStackTrace", desc := "(I)Ljava/lang/Throwable;" } : Jvm.MethodName)) ∈ gtbl := gt5 (i := 124) rfl rfl
theorem q_1085 : (Cond.instantiable "java/lang/Throwable" (6 : Nat)) ∈ gtbl := gt5 (i := 125) rfl rfl
theorem q_1086 : (Cond.native ({ cls := "java/lang/Throwable", name := "fillInStackTrace", desc := "(I)Ljava/lang/Throwable;" } : Jvm.MethodName)) ∈ gtbl := gt5 (i := 126) rfl rfl
theorem q_1088 : (Cond.methodLink "FlatPlan" (367 : Nat) ({ cls := "java/lang/IndexOutOfBoundsException", name := "<init>", desc := "(Ljava/lang/String;)V" } : Jvm.MethodName)) ∈ gtbl := gt5 (i := 128) rfl rfl
theorem q_1089 : (Cond.instanceMethod ({ cls := "java/lang/IndexOutOfBoundsException", name := "<init>", desc := "(Ljava/lang/String;)V" } : Jvm.MethodName)) ∈ gtbl := gt5 (i := 129) rfl rfl
theorem q_1090 : (Cond.code ({ cls := "java/lang/IndexOutOfBoundsException", name := "<init>", desc := "(Ljava/lang/String;)V" } : Jvm.MethodName) prog_26_method_2_code (2 : Nat) (Option.none : Option FieldType)) ∈ gtbl := gt5 (i := 130) rfl rfl
theorem q_1091 : (Cond.methodLink "java/lang/IndexOutOfBoundsException" (7 : Nat) ({ cls := "java/lang/RuntimeException", name := "<init>", desc := "(Ljava/lang/String;)V" } : Jvm.MethodName)) ∈ gtbl := gt5 (i := 131) rfl rfl
theorem q_1092 : (Cond.instanceMethod ({ cls := "java/lang/RuntimeException", name := "<init>", desc := "(Ljava/lang/String;)V" } : Jvm.MethodName)) ∈ gtbl := gt5 (i := 132) rfl rfl
theorem q_1093 : (Cond.code ({ cls := "java/lang/RuntimeException", name := "<init>", desc := "(Ljava/lang/String;)V" } : Jvm.MethodName) prog_32_method_2_code (2 : Nat) (Option.none : Option FieldType)) ∈ gtbl := gt5 (i := 133) rfl rfl
theorem q_1094 : (Cond.methodLink "java/lang/RuntimeException" (7 : Nat) ({ cls := "java/lang/Exception", name := "<init>", desc := "(Ljava/lang/String;)V" } : Jvm.MethodName)) ∈ gtbl := gt5 (i := 134) rfl rfl
theorem q_1095 : (Cond.instanceMethod ({ cls := "java/lang/Exception", name := "<init>", desc := "(Ljava/lang/String;)V" } : Jvm.MethodName)) ∈ gtbl := gt5 (i := 135) rfl rfl
theorem q_1096 : (Cond.code ({ cls := "java/lang/Exception", name := "<init>", desc := "(Ljava/lang/String;)V" } : Jvm.MethodName) prog_24_method_2_code (2 : Nat) (Option.none : Option FieldType)) ∈ gtbl := gt5 (i := 136) rfl rfl
theorem q_1097 : (Cond.methodLink "java/lang/Exception" (7 : Nat) ({ cls := "java/lang/Throwable", name := "<init>", desc := "(Ljava/lang/String;)V" } : Jvm.MethodName)) ∈ gtbl := gt5 (i := 137) rfl rfl
theorem q_1098 : (Cond.instanceMethod ({ cls := "java/lang/Throwable", name := "<init>", desc := "(Ljava/lang/String;)V" } : Jvm.MethodName)) ∈ gtbl := gt5 (i := 138) rfl rfl
theorem q_1099 : (Cond.code ({ cls := "java/lang/Throwable", name := "<init>", desc := "(Ljava/lang/String;)V" } : Jvm.MethodName) prog_38_method_2_code (2 : Nat) (Option.none : Option FieldType)) ∈ gtbl := gt5 (i := 139) rfl rfl
theorem q_1100 : (Cond.fieldLink "java/lang/Throwable" (198 : Nat) "java/lang/Throwable" "backtrace" "Ljava/lang/Object;") ∈ gtbl := gt5 (i := 140) rfl rfl
theorem q_1101 : (Cond.fieldLink "java/lang/Throwable" (31 : Nat) "java/lang/Throwable" "detailMessage" "Ljava/lang/String;") ∈ gtbl := gt5 (i := 141) rfl rfl
theorem q_1102 : (Cond.fieldLink "java/lang/Throwable" (7 : Nat) "java/lang/Throwable" "cause" "Ljava/lang/Throwable;") ∈ gtbl := gt5 (i := 142) rfl rfl
theorem q_1103 : (Cond.fieldLink "java/lang/Throwable" (17 : Nat) "java/lang/Throwable" "stackTrace" "[Ljava/lang/StackTraceElement;") ∈ gtbl := gt5 (i := 143) rfl rfl
theorem q_1104 : (Cond.fieldLink "java/lang/Throwable" (24 : Nat) "java/lang/Throwable" "suppressedExceptions" "Ljava/util/List;") ∈ gtbl := gt5 (i := 144) rfl rfl
theorem q_1109 : (Cond.lays "java/lang/IndexOutOfBoundsException" "java/lang/Throwable" "depth" "I") ∈ gtbl := gt5 (i := 149) rfl rfl
theorem q_1113 : (Cond.methodLink "FlatPlan" (185 : Nat) ({ cls := "FlatPlan", name := "orNone", desc := "(I)I" } : Jvm.MethodName)) ∈ gtbl := gt5 (i := 153) rfl rfl
theorem q_1114 : (Cond.static ({ cls := "FlatPlan", name := "orNone", desc := "(I)I" } : Jvm.MethodName)) ∈ gtbl := gt5 (i := 154) rfl rfl
theorem q_1115 : (Cond.code ({ cls := "FlatPlan", name := "orNone", desc := "(I)I" } : Jvm.MethodName) prog_1_method_71_code (1 : Nat) (Option.some FieldType.int)) ∈ gtbl := gt5 (i := 155) rfl rfl
theorem q_1116 : (Cond.methodLink "FlatPlan" (189 : Nat) ({ cls := "FlatPlan$Plan", name := "isLate", desc := "(I)Z" } : Jvm.MethodName)) ∈ gtbl := gt5 (i := 156) rfl rfl
theorem q_1117 : (Cond.instanceMethod ({ cls := "FlatPlan$Plan", name := "isLate", desc := "(I)Z" } : Jvm.MethodName)) ∈ gtbl := gt5 (i := 157) rfl rfl
theorem q_1118 : (Cond.selects "FlatPlan$Plan" ({ cls := "FlatPlan$Plan", name := "isLate", desc := "(I)Z" } : Jvm.MethodName) ({ cls := "FlatPlan$Plan", name := "isLate", desc := "(I)Z" } : Jvm.MethodName)) ∈ gtbl := gt5 (i := 158) rfl rfl
theorem q_1119 : (Cond.code ({ cls := "FlatPlan$Plan", name := "isLate", desc := "(I)Z" } : Jvm.MethodName) prog_6_method_9_code (2 : Nat) (Option.some FieldType.boolean)) ∈ gtbl := gt5 (i := 159) rfl rfl
theorem q_1120 : (Cond.methodLink "FlatPlanLaw" (101 : Nat) ({ cls := "FlatPlan", name := "story", desc := "(II)I" } : Jvm.MethodName)) ∈ gtbl := gt5 (i := 160) rfl rfl
theorem q_1121 : (Cond.instanceMethod ({ cls := "FlatPlan", name := "story", desc := "(II)I" } : Jvm.MethodName)) ∈ gtbl := gt5 (i := 161) rfl rfl
theorem q_1122 : (Cond.selects "FlatPlan" ({ cls := "FlatPlan", name := "story", desc := "(II)I" } : Jvm.MethodName) ({ cls := "FlatPlan", name := "story", desc := "(II)I" } : Jvm.MethodName)) ∈ gtbl := gt5 (i := 162) rfl rfl
theorem q_1123 : (Cond.code ({ cls := "FlatPlan", name := "story", desc := "(II)I" } : Jvm.MethodName) prog_1_method_13_code (4 : Nat) (Option.some FieldType.int)) ∈ gtbl := gt5 (i := 163) rfl rfl
theorem q_1124 : (Cond.methodLink "FlatPlan" (192 : Nat) ({ cls := "FlatPlan", name := "needStory", desc := "(I)V" } : Jvm.MethodName)) ∈ gtbl := gt5 (i := 164) rfl rfl
theorem q_1126 : (Cond.instanceMethod ({ cls := "FlatPlan", name := "needStory", desc := "(I)V" } : Jvm.MethodName)) ∈ gtbl := gt5 (i := 166) rfl rfl
theorem q_1127 : (Cond.code ({ cls := "FlatPlan", name := "needStory", desc := "(I)V" } : Jvm.MethodName) prog_1_method_64_code (2 : Nat) (Option.none : Option FieldType)) ∈ gtbl := gt5 (i := 167) rfl rfl
theorem q_1129 : (Cond.methodLink "FlatPlanLaw" (104 : Nat) ({ cls := "FlatPlan", name := "standby", desc := "(II)I" } : Jvm.MethodName)) ∈ gtbl := gt5 (i := 169) rfl rfl
theorem q_1130 : (Cond.instanceMethod ({ cls := "FlatPlan", name := "standby", desc := "(II)I" } : Jvm.MethodName)) ∈ gtbl := gt5 (i := 170) rfl rfl
theorem q_1131 : (Cond.selects "FlatPlan" ({ cls := "FlatPlan", name := "standby", desc := "(II)I" } : Jvm.MethodName) ({ cls := "FlatPlan", name := "standby", desc := "(II)I" } : Jvm.MethodName)) ∈ gtbl := gt5 (i := 171) rfl rfl
theorem q_1132 : (Cond.code ({ cls := "FlatPlan", name := "standby", desc := "(II)I" } : Jvm.MethodName) prog_1_method_14_code (4 : Nat) (Option.some FieldType.int)) ∈ gtbl := gt5 (i := 172) rfl rfl
theorem q_1133 : (Cond.methodLink "FlatPlan" (200 : Nat) ({ cls := "FlatPlan", name := "needStandby", desc := "(I)V" } : Jvm.MethodName)) ∈ gtbl := gt5 (i := 173) rfl rfl
theorem q_1135 : (Cond.instanceMethod ({ cls := "FlatPlan", name := "needStandby", desc := "(I)V" } : Jvm.MethodName)) ∈ gtbl := gt5 (i := 175) rfl rfl
theorem q_1136 : (Cond.code ({ cls := "FlatPlan", name := "needStandby", desc := "(I)V" } : Jvm.MethodName) prog_1_method_65_code (2 : Nat) (Option.none : Option FieldType)) ∈ gtbl := gt5 (i := 176) rfl rfl
theorem q_1138 : (Cond.methodLink "FlatPlanLaw" (113 : Nat) ({ cls := "FlatPlan", name := "count", desc := "(I)I" } : Jvm.MethodName)) ∈ gtbl := gt5 (i := 178) rfl rfl
theorem q_1139 : (Cond.instanceMethod ({ cls := "FlatPlan", name := "count", desc := "(I)I" } : Jvm.MethodName)) ∈ gtbl := gt5 (i := 179) rfl rfl
theorem q_1140 : (Cond.selects "FlatPlan" ({ cls := "FlatPlan", name := "count", desc := "(I)I" } : Jvm.MethodName) ({ cls := "FlatPlan", name := "count", desc := "(I)I" } : Jvm.MethodName)) ∈ gtbl := gt5 (i := 180) rfl rfl
theorem q_1141 : (Cond.code ({ cls := "FlatPlan", name := "count", desc := "(I)I" } : Jvm.MethodName) prog_1_method_7_code (3 : Nat) (Option.some FieldType.int)) ∈ gtbl := gt5 (i := 181) rfl rfl
theorem q_1142 : (Cond.methodLink "FlatPlan" (124 : Nat) ({ cls := "FlatPlan", name := "placed", desc := "([II)I" } : Jvm.MethodName)) ∈ gtbl := gt5 (i := 182) rfl rfl
theorem q_1143 : (Cond.static ({ cls := "FlatPlan", name := "placed", desc := "([II)I" } : Jvm.MethodName)) ∈ gtbl := gt5 (i := 183) rfl rfl
theorem q_1144 : (Cond.code ({ cls := "FlatPlan", name := "placed", desc := "([II)I" } : Jvm.MethodName) prog_1_method_8_code (4 : Nat) (Option.some FieldType.int)) ∈ gtbl := gt5 (i := 184) rfl rfl
theorem q_1145 : (Cond.methodLink "FlatPlanLaw" (116 : Nat) ({ cls := "FlatPlan", name := "digest", desc := "()I" } : Jvm.MethodName)) ∈ gtbl := gt5 (i := 185) rfl rfl
theorem q_1146 : (Cond.instanceMethod ({ cls := "FlatPlan", name := "digest", desc := "()I" } : Jvm.MethodName)) ∈ gtbl := gt5 (i := 186) rfl rfl
theorem q_1147 : (Cond.selects "FlatPlan" ({ cls := "FlatPlan", name := "digest", desc := "()I" } : Jvm.MethodName) ({ cls := "FlatPlan", name := "digest", desc := "()I" } : Jvm.MethodName)) ∈ gtbl := gt5 (i := 187) rfl rfl
theorem q_1148 : (Cond.code ({ cls := "FlatPlan", name := "digest", desc := "()I" } : Jvm.MethodName) prog_1_method_60_code (4 : Nat) (Option.some FieldType.int)) ∈ gtbl := gt5 (i := 188) rfl rfl
theorem q_1149 : (Cond.methodLink "FlatPlanLaw" (119 : Nat) ({ cls := "FlatPlan", name := "revenue", desc := "()I" } : Jvm.MethodName)) ∈ gtbl := gt5 (i := 189) rfl rfl
theorem q_1150 : (Cond.instanceMethod ({ cls := "FlatPlan", name := "revenue", desc := "()I" } : Jvm.MethodName)) ∈ gtbl := gt5 (i := 190) rfl rfl
theorem q_1151 : (Cond.selects "FlatPlan" ({ cls := "FlatPlan", name := "revenue", desc := "()I" } : Jvm.MethodName) ({ cls := "FlatPlan", name := "revenue", desc := "()I" } : Jvm.MethodName)) ∈ gtbl := gt5 (i := 191) rfl rfl
theorem q_1152 : (Cond.code ({ cls := "FlatPlan", name := "revenue", desc := "()I" } : Jvm.MethodName) prog_1_method_51_code (4 : Nat) (Option.some FieldType.int)) ∈ gtbl := gt5 (i := 192) rfl rfl
theorem q_1153 : (Cond.methodLink "FlatPlanLaw" (122 : Nat) ({ cls := "FlatPlan", name := "lost", desc := "()I" } : Jvm.MethodName)) ∈ gtbl := gt5 (i := 193) rfl rfl
theorem q_1154 : (Cond.instanceMethod ({ cls := "FlatPlan", name := "lost", desc := "()I" } : Jvm.MethodName)) ∈ gtbl := gt5 (i := 194) rfl rfl
theorem q_1155 : (Cond.selects "FlatPlan" ({ cls := "FlatPlan", name := "lost", desc := "()I" } : Jvm.MethodName) ({ cls := "FlatPlan", name := "lost", desc := "()I" } : Jvm.MethodName)) ∈ gtbl := gt5 (i := 195) rfl rfl
theorem q_1156 : (Cond.code ({ cls := "FlatPlan", name := "lost", desc := "()I" } : Jvm.MethodName) prog_1_method_54_code (1 : Nat) (Option.some FieldType.int)) ∈ gtbl := gt5 (i := 196) rfl rfl
theorem q_1157 : (Cond.methodLink "FlatPlanLaw" (127 : Nat) ({ cls := "FlatPlan", name := "undoCount", desc := "()I" } : Jvm.MethodName)) ∈ gtbl := gt5 (i := 197) rfl rfl
theorem q_1158 : (Cond.instanceMethod ({ cls := "FlatPlan", name := "undoCount", desc := "()I" } : Jvm.MethodName)) ∈ gtbl := gt5 (i := 198) rfl rfl
theorem q_1159 : (Cond.selects "FlatPlan" ({ cls := "FlatPlan", name := "undoCount", desc := "()I" } : Jvm.MethodName) ({ cls := "FlatPlan", name := "undoCount", desc := "()I" } : Jvm.MethodName)) ∈ gtbl := gt5 (i := 199) rfl rfl
theorem q_1160 : (Cond.code ({ cls := "FlatPlan", name := "undoCount", desc := "()I" } : Jvm.MethodName) prog_1_method_62_code (1 : Nat) (Option.some FieldType.int)) ∈ gtbl := gt5 (i := 200) rfl rfl
theorem q_1161 : (Cond.methodLink "FlatPlanLaw" (130 : Nat) ({ cls := "FlatPlanLaw", name := "thrownByPage", desc := "(LFlatPlan;I)I" } : Jvm.MethodName)) ∈ gtbl := gt5 (i := 201) rfl rfl
theorem q_1162 : (Cond.static ({ cls := "FlatPlanLaw", name := "thrownByPage", desc := "(LFlatPlan;I)I" } : Jvm.MethodName)) ∈ gtbl := gt5 (i := 202) rfl rfl
theorem q_1163 : (Cond.codeWith ({ cls := "FlatPlanLaw", name := "thrownByPage", desc := "(LFlatPlan;I)I" } : Jvm.MethodName) method_4_code (3 : Nat) (Option.some FieldType.int) [((0 : Nat), (7 : Nat), (10 : Nat), (32 : Nat))]) ∈ gtbl := gt5 (i := 203) rfl rfl
theorem q_1164 : (Cond.classLink "FlatPlanLaw" (32 : Nat) "java/lang/IndexOutOfBoundsException") ∈ gtbl := gt5 (i := 204) rfl rfl
theorem q_1165 : (Cond.instantiable "java/lang/ArrayIndexOutOfBoundsException" (6 : Nat)) ∈ gtbl := gt5 (i := 205) rfl rfl
theorem q_1166 : (Cond.instanceMethod ({ cls := "java/lang/ArrayIndexOutOfBoundsException", name := "<init>", desc := "(Ljava/lang/String;)V" } : Jvm.MethodName)) ∈ gtbl := gt5 (i := 206) rfl rfl
theorem q_1167 : (Cond.code ({ cls := "java/lang/ArrayIndexOutOfBoundsException", name := "<init>", desc := "(Ljava/lang/String;)V" } : Jvm.MethodName) prog_20_method_2_code (2 : Nat) (Option.none : Option FieldType)) ∈ gtbl := gt5 (i := 207) rfl rfl
theorem q_1168 : (Cond.methodLink "java/lang/ArrayIndexOutOfBoundsException" (7 : Nat) ({ cls := "java/lang/IndexOutOfBoundsException", name := "<init>", desc := "(Ljava/lang/String;)V" } : Jvm.MethodName)) ∈ gtbl := gt5 (i := 208) rfl rfl
theorem q_1169 : (Cond.lays "java/lang/ArrayIndexOutOfBoundsException" "java/lang/Throwable" "backtrace" "Ljava/lang/Object;") ∈ gtbl := gt5 (i := 209) rfl rfl
theorem q_1170 : (Cond.lays "java/lang/ArrayIndexOutOfBoundsException" "java/lang/Throwable" "detailMessage" "Ljava/lang/String;") ∈ gtbl := gt5 (i := 210) rfl rfl
theorem q_1171 : (Cond.lays "java/lang/ArrayIndexOutOfBoundsException" "java/lang/Throwable" "cause" "Ljava/lang/Throwable;") ∈ gtbl := gt5 (i := 211) rfl rfl
theorem q_1172 : (Cond.lays "java/lang/ArrayIndexOutOfBoundsException" "java/lang/Throwable" "stackTrace" "[Ljava/lang/StackTraceElement;") ∈ gtbl := gt5 (i := 212) rfl rfl
theorem q_1173 : (Cond.lays "java/lang/ArrayIndexOutOfBoundsException" "java/lang/Throwable" "depth" "I") ∈ gtbl := gt5 (i := 213) rfl rfl
theorem q_1174 : (Cond.lays "java/lang/ArrayIndexOutOfBoundsException" "java/lang/Throwable" "suppressedExceptions" "Ljava/util/List;") ∈ gtbl := gt5 (i := 214) rfl rfl
theorem q_1179 : (Cond.selects "java/lang/ArrayIndexOutOfBoundsException" ({ cls := "java/lang/Throwable", name := "fillInStackTrace", desc := "(I)Ljava/lang/Throwable;" } : Jvm.MethodName) ({ cls := "java/lang/Throwable", name := "fillInStackTrace", desc := "(I)Ljava/lang/Throwable;" } : Jvm.MethodName)) ∈ gtbl := gt5 (i := 219) rfl rfl
theorem q_1180 : (Cond.instantiable "java/lang/String" (4 : Nat)) ∈ gtbl := gt5 (i := 220) rfl rfl
theorem q_1181 : (Cond.laysFinal "java/lang/String" "java/lang/String" "value" "[B") ∈ gtbl := gt5 (i := 221) rfl rfl
theorem q_1183 : (Cond.laysFinal "java/lang/String" "java/lang/String" "coder" "B") ∈ gtbl := gt5 (i := 223) rfl rfl
theorem q_1185 : (Cond.methodLink "FlatPlanLaw" (28 : Nat) ({ cls := "FlatPlan", name := "page", desc := "(II)I" } : Jvm.MethodName)) ∈ gtbl := gt5 (i := 225) rfl rfl
theorem q_1186 : (Cond.instanceMethod ({ cls := "FlatPlan", name := "page", desc := "(II)I" } : Jvm.MethodName)) ∈ gtbl := gt5 (i := 226) rfl rfl
theorem q_1187 : (Cond.selects "FlatPlan" ({ cls := "FlatPlan", name := "page", desc := "(II)I" } : Jvm.MethodName) ({ cls := "FlatPlan", name := "page", desc := "(II)I" } : Jvm.MethodName)) ∈ gtbl := gt5 (i := 227) rfl rfl
theorem q_1188 : (Cond.code ({ cls := "FlatPlan", name := "page", desc := "(II)I" } : Jvm.MethodName) prog_1_method_15_code (3 : Nat) (Option.some FieldType.int)) ∈ gtbl := gt5 (i := 228) rfl rfl
theorem q_1189 : (Cond.methodLink "FlatPlan" (204 : Nat) ({ cls := "FlatPlan", name := "needPage", desc := "(I)V" } : Jvm.MethodName)) ∈ gtbl := gt5 (i := 229) rfl rfl
theorem q_1191 : (Cond.instanceMethod ({ cls := "FlatPlan", name := "needPage", desc := "(I)V" } : Jvm.MethodName)) ∈ gtbl := gt5 (i := 231) rfl rfl
theorem q_1192 : (Cond.code ({ cls := "FlatPlan", name := "needPage", desc := "(I)V" } : Jvm.MethodName) prog_1_method_66_code (2 : Nat) (Option.none : Option FieldType)) ∈ gtbl := gt5 (i := 232) rfl rfl
theorem q_1193 : (Cond.methodLink "FlatPlan" (372 : Nat) ({ cls := "FlatPlan$Plan", name := "hasPage", desc := "(I)Z" } : Jvm.MethodName)) ∈ gtbl := gt5 (i := 233) rfl rfl
theorem q_1195 : (Cond.methodLink "FlatPlan" (216 : Nat) ({ cls := "FlatPlan", name := "standing", desc := "([III)I" } : Jvm.MethodName)) ∈ gtbl := gt5 (i := 235) rfl rfl
theorem q_1196 : (Cond.static ({ cls := "FlatPlan", name := "standing", desc := "([III)I" } : Jvm.MethodName)) ∈ gtbl := gt5 (i := 236) rfl rfl
theorem q_1197 : (Cond.code ({ cls := "FlatPlan", name := "standing", desc := "([III)I" } : Jvm.MethodName) prog_1_method_16_code (5 : Nat) (Option.some FieldType.int)) ∈ gtbl := gt5 (i := 237) rfl rfl
theorem q_1198 : (Cond.methodLink "FlatPlanLaw" (134 : Nat) ({ cls := "FlatPlanLaw", name := "thrownByPrice", desc := "(LFlatPlan;)I" } : Jvm.MethodName)) ∈ gtbl := gt5 (i := 238) rfl rfl
theorem q_1199 : (Cond.static ({ cls := "FlatPlanLaw", name := "thrownByPrice", desc := "(LFlatPlan;)I" } : Jvm.MethodName)) ∈ gtbl := gt5 (i := 239) rfl rfl
theorem q_1200 : (Cond.codeWith ({ cls := "FlatPlanLaw", name := "thrownByPrice", desc := "(LFlatPlan;)I" } : Jvm.MethodName) method_5_code (2 : Nat) (Option.some FieldType.int) [((0 : Nat), (5 : Nat), (8 : Nat), (38 : Nat))]) ∈ gtbl := gt6 (i := 0) rfl rfl
theorem q_1201 : (Cond.classLink "FlatPlanLaw" (38 : Nat) "java/lang/ArithmeticException") ∈ gtbl := gt6 (i := 1) rfl rfl
theorem q_1202 : (Cond.instantiable "java/lang/ArithmeticException" (6 : Nat)) ∈ gtbl := gt6 (i := 2) rfl rfl
theorem q_1203 : (Cond.instanceMethod ({ cls := "java/lang/ArithmeticException", name := "<init>", desc := "(Ljava/lang/String;)V" } : Jvm.MethodName)) ∈ gtbl := gt6 (i := 3) rfl rfl
theorem q_1204 : (Cond.code ({ cls := "java/lang/ArithmeticException", name := "<init>", desc := "(Ljava/lang/String;)V" } : Jvm.MethodName) prog_19_method_2_code (2 : Nat) (Option.none : Option FieldType)) ∈ gtbl := gt6 (i := 4) rfl rfl
theorem q_1205 : (Cond.methodLink "java/lang/ArithmeticException" (7 : Nat) ({ cls := "java/lang/RuntimeException", name := "<init>", desc := "(Ljava/lang/String;)V" } : Jvm.MethodName)) ∈ gtbl := gt6 (i := 5) rfl rfl
theorem q_1206 : (Cond.lays "java/lang/ArithmeticException" "java/lang/Throwable" "backtrace" "Ljava/lang/Object;") ∈ gtbl := gt6 (i := 6) rfl rfl
theorem q_1207 : (Cond.lays "java/lang/ArithmeticException" "java/lang/Throwable" "detailMessage" "Ljava/lang/String;") ∈ gtbl := gt6 (i := 7) rfl rfl
theorem q_1208 : (Cond.lays "java/lang/ArithmeticException" "java/lang/Throwable" "cause" "Ljava/lang/Throwable;") ∈ gtbl := gt6 (i := 8) rfl rfl
theorem q_1209 : (Cond.lays "java/lang/ArithmeticException" "java/lang/Throwable" "stackTrace" "[Ljava/lang/StackTraceElement;") ∈ gtbl := gt6 (i := 9) rfl rfl
theorem q_1210 : (Cond.lays "java/lang/ArithmeticException" "java/lang/Throwable" "depth" "I") ∈ gtbl := gt6 (i := 10) rfl rfl
theorem q_1211 : (Cond.lays "java/lang/ArithmeticException" "java/lang/Throwable" "suppressedExceptions" "Ljava/util/List;") ∈ gtbl := gt6 (i := 11) rfl rfl
theorem q_1214 : (Cond.selects "java/lang/ArithmeticException" ({ cls := "java/lang/Throwable", name := "fillInStackTrace", desc := "(I)Ljava/lang/Throwable;" } : Jvm.MethodName) ({ cls := "java/lang/Throwable", name := "fillInStackTrace", desc := "(I)Ljava/lang/Throwable;" } : Jvm.MethodName)) ∈ gtbl := gt6 (i := 14) rfl rfl
theorem q_1215 : (Cond.methodLink "FlatPlanLaw" (34 : Nat) ({ cls := "FlatPlan", name := "quarterPrice", desc := "()D" } : Jvm.MethodName)) ∈ gtbl := gt6 (i := 15) rfl rfl
theorem q_1216 : (Cond.instanceMethod ({ cls := "FlatPlan", name := "quarterPrice", desc := "()D" } : Jvm.MethodName)) ∈ gtbl := gt6 (i := 16) rfl rfl
theorem q_1217 : (Cond.selects "FlatPlan" ({ cls := "FlatPlan", name := "quarterPrice", desc := "()D" } : Jvm.MethodName) ({ cls := "FlatPlan", name := "quarterPrice", desc := "()D" } : Jvm.MethodName)) ∈ gtbl := gt6 (i := 17) rfl rfl
theorem q_1218 : (Cond.code ({ cls := "FlatPlan", name := "quarterPrice", desc := "()D" } : Jvm.MethodName) prog_1_method_57_code (4 : Nat) (Option.some FieldType.double)) ∈ gtbl := gt6 (i := 18) rfl rfl
theorem q_1219 : (Cond.classLink "FlatPlan" (343 : Nat) "java/lang/ArithmeticException") ∈ gtbl := gt6 (i := 19) rfl rfl
theorem q_1221 : (Cond.methodLink "FlatPlan" (347 : Nat) ({ cls := "java/lang/ArithmeticException", name := "<init>", desc := "(Ljava/lang/String;)V" } : Jvm.MethodName)) ∈ gtbl := gt6 (i := 21) rfl rfl
theorem q_1222 : (Cond.methodLink "FlatPlan" (348 : Nat) ({ cls := "FlatPlan", name := "revenue", desc := "()I" } : Jvm.MethodName)) ∈ gtbl := gt6 (i := 22) rfl rfl
theorem q_1223 : (Cond.methodLink "FlatPlanLaw" (462 : Nat) ({ cls := "FlatPlanLaw", name := "pages", desc := "(LFlatPlan;LFlatPlanLaw$Plan;)Z" } : Jvm.MethodName)) ∈ gtbl := gt6 (i := 23) rfl rfl
theorem q_1224 : (Cond.static ({ cls := "FlatPlanLaw", name := "pages", desc := "(LFlatPlan;LFlatPlanLaw$Plan;)Z" } : Jvm.MethodName)) ∈ gtbl := gt6 (i := 24) rfl rfl
theorem q_1225 : (Cond.code ({ cls := "FlatPlanLaw", name := "pages", desc := "(LFlatPlan;LFlatPlanLaw$Plan;)Z" } : Jvm.MethodName) method_8_code (11 : Nat) (Option.some FieldType.boolean)) ∈ gtbl := gt6 (i := 25) rfl rfl
theorem q_1226 : (Cond.methodLink "FlatPlanLaw" (138 : Nat) ({ cls := "FlatPlanLaw$Plan", name := "on", desc := "(Ljava/util/ArrayList;I)Ljava/util/ArrayList;" } : Jvm.MethodName)) ∈ gtbl := gt6 (i := 26) rfl rfl
theorem q_1227 : (Cond.instanceMethod ({ cls := "FlatPlanLaw$Plan", name := "on", desc := "(Ljava/util/ArrayList;I)Ljava/util/ArrayList;" } : Jvm.MethodName)) ∈ gtbl := gt6 (i := 27) rfl rfl
theorem q_1228 : (Cond.selects "FlatPlanLaw$Plan" ({ cls := "FlatPlanLaw$Plan", name := "on", desc := "(Ljava/util/ArrayList;I)Ljava/util/ArrayList;" } : Jvm.MethodName) ({ cls := "FlatPlanLaw$Plan", name := "on", desc := "(Ljava/util/ArrayList;I)Ljava/util/ArrayList;" } : Jvm.MethodName)) ∈ gtbl := gt6 (i := 28) rfl rfl
theorem q_1229 : (Cond.code ({ cls := "FlatPlanLaw$Plan", name := "on", desc := "(Ljava/util/ArrayList;I)Ljava/util/ArrayList;" } : Jvm.MethodName) prog_14_method_7_code (5 : Nat) (Option.some (FieldType.object "java/util/ArrayList"))) ∈ gtbl := gt6 (i := 29) rfl rfl
theorem q_1230 : (Cond.methodLink "FlatPlanLaw$Plan" (83 : Nat) ({ cls := "java/util/ArrayList", name := "size", desc := "()I" } : Jvm.MethodName)) ∈ gtbl := gt6 (i := 30) rfl rfl
theorem q_1231 : (Cond.methodLink "FlatPlanLaw$Plan" (87 : Nat) ({ cls := "java/util/ArrayList", name := "get", desc := "(I)Ljava/lang/Object;" } : Jvm.MethodName)) ∈ gtbl := gt6 (i := 31) rfl rfl
theorem q_1232 : (Cond.methodLink "FlatPlanLaw$Plan" (96 : Nat) ({ cls := "java/lang/Integer", name := "valueOf", desc := "(I)Ljava/lang/Integer;" } : Jvm.MethodName)) ∈ gtbl := gt6 (i := 32) rfl rfl
theorem q_1233 : (Cond.static ({ cls := "java/lang/Integer", name := "valueOf", desc := "(I)Ljava/lang/Integer;" } : Jvm.MethodName)) ∈ gtbl := gt6 (i := 33) rfl rfl
theorem q_1234 : (Cond.code ({ cls := "java/lang/Integer", name := "valueOf", desc := "(I)Ljava/lang/Integer;" } : Jvm.MethodName) prog_27_method_22_code (1 : Nat) (Option.some (FieldType.object "java/lang/Integer"))) ∈ gtbl := gt6 (i := 34) rfl rfl
theorem q_1235 : (Cond.fieldLink "java/lang/Integer" (191 : Nat) "java/lang/Integer$IntegerCache" "high" "I") ∈ gtbl := gt6 (i := 35) rfl rfl
theorem q_1237 : (Cond.fieldLink "java/lang/Integer" (195 : Nat) "java/lang/Integer$IntegerCache" "cache" "[Ljava/lang/Integer;") ∈ gtbl := gt6 (i := 37) rfl rfl
theorem q_1239 : (Cond.classLink "java/lang/Integer" (1 : Nat) "java/lang/Integer") ∈ gtbl := gt6 (i := 39) rfl rfl
theorem q_1240 : (Cond.instantiable "java/lang/Integer" (1 : Nat)) ∈ gtbl := gt6 (i := 40) rfl rfl
theorem q_1241 : (Cond.methodLink "java/lang/Integer" (199 : Nat) ({ cls := "java/lang/Integer", name := "<init>", desc := "(I)V" } : Jvm.MethodName)) ∈ gtbl := gt6 (i := 41) rfl rfl
theorem q_1242 : (Cond.instanceMethod ({ cls := "java/lang/Integer", name := "<init>", desc := "(I)V" } : Jvm.MethodName)) ∈ gtbl := gt6 (i := 42) rfl rfl
theorem q_1243 : (Cond.code ({ cls := "java/lang/Integer", name := "<init>", desc := "(I)V" } : Jvm.MethodName) prog_27_method_23_code (2 : Nat) (Option.none : Option FieldType)) ∈ gtbl := gt6 (i := 43) rfl rfl
theorem q_1244 : (Cond.methodLink "java/lang/Integer" (202 : Nat) ({ cls := "java/lang/Number", name := "<init>", desc := "()V" } : Jvm.MethodName)) ∈ gtbl := gt6 (i := 44) rfl rfl
theorem q_1245 : (Cond.instanceMethod ({ cls := "java/lang/Number", name := "<init>", desc := "()V" } : Jvm.MethodName)) ∈ gtbl := gt6 (i := 45) rfl rfl
theorem q_1246 : (Cond.code ({ cls := "java/lang/Number", name := "<init>", desc := "()V" } : Jvm.MethodName) prog_31_method_1_code (1 : Nat) (Option.none : Option FieldType)) ∈ gtbl := gt6 (i := 46) rfl rfl
theorem q_1247 : (Cond.methodLink "java/lang/Number" (1 : Nat) ({ cls := "java/lang/Object", name := "<init>", desc := "()V" } : Jvm.MethodName)) ∈ gtbl := gt6 (i := 47) rfl rfl
theorem q_1248 : (Cond.fieldLink "java/lang/Integer" (205 : Nat) "java/lang/Integer" "value" "I") ∈ gtbl := gt6 (i := 48) rfl rfl
theorem q_1249 : (Cond.laysFinal "java/lang/Integer" "java/lang/Integer" "value" "I") ∈ gtbl := gt6 (i := 49) rfl rfl
theorem q_1252 : (Cond.methodLink "FlatPlanLaw" (142 : Nat) ({ cls := "FlatPlanLaw$Plan", name := "left", desc := "(I)I" } : Jvm.MethodName)) ∈ gtbl := gt6 (i := 52) rfl rfl
theorem q_1253 : (Cond.instanceMethod ({ cls := "FlatPlanLaw$Plan", name := "left", desc := "(I)I" } : Jvm.MethodName)) ∈ gtbl := gt6 (i := 53) rfl rfl
theorem q_1254 : (Cond.selects "FlatPlanLaw$Plan" ({ cls := "FlatPlanLaw$Plan", name := "left", desc := "(I)I" } : Jvm.MethodName) ({ cls := "FlatPlanLaw$Plan", name := "left", desc := "(I)I" } : Jvm.MethodName)) ∈ gtbl := gt6 (i := 54) rfl rfl
theorem q_1255 : (Cond.code ({ cls := "FlatPlanLaw$Plan", name := "left", desc := "(I)I" } : Jvm.MethodName) prog_14_method_8_code (4 : Nat) (Option.some FieldType.int)) ∈ gtbl := gt6 (i := 55) rfl rfl
theorem q_1256 : (Cond.methodLink "FlatPlanLaw$Plan" (102 : Nat) ({ cls := "FlatPlanLaw$Plan", name := "story", desc := "(I)I" } : Jvm.MethodName)) ∈ gtbl := gt6 (i := 56) rfl rfl
theorem q_1257 : (Cond.instanceMethod ({ cls := "FlatPlanLaw$Plan", name := "story", desc := "(I)I" } : Jvm.MethodName)) ∈ gtbl := gt6 (i := 57) rfl rfl
theorem q_1258 : (Cond.selects "FlatPlanLaw$Plan" ({ cls := "FlatPlanLaw$Plan", name := "story", desc := "(I)I" } : Jvm.MethodName) ({ cls := "FlatPlanLaw$Plan", name := "story", desc := "(I)I" } : Jvm.MethodName)) ∈ gtbl := gt6 (i := 58) rfl rfl
theorem q_1259 : (Cond.code ({ cls := "FlatPlanLaw$Plan", name := "story", desc := "(I)I" } : Jvm.MethodName) prog_14_method_6_code (3 : Nat) (Option.some FieldType.int)) ∈ gtbl := gt6 (i := 59) rfl rfl
theorem q_1260 : (Cond.methodLink "FlatPlanLaw" (148 : Nat) ({ cls := "FlatPlanLaw$Plan", name := "form", desc := "(I)I" } : Jvm.MethodName)) ∈ gtbl := gt6 (i := 60) rfl rfl
theorem q_1261 : (Cond.instanceMethod ({ cls := "FlatPlanLaw$Plan", name := "form", desc := "(I)I" } : Jvm.MethodName)) ∈ gtbl := gt6 (i := 61) rfl rfl
theorem q_1262 : (Cond.selects "FlatPlanLaw$Plan" ({ cls := "FlatPlanLaw$Plan", name := "form", desc := "(I)I" } : Jvm.MethodName) ({ cls := "FlatPlanLaw$Plan", name := "form", desc := "(I)I" } : Jvm.MethodName)) ∈ gtbl := gt6 (i := 62) rfl rfl
theorem q_1263 : (Cond.code ({ cls := "FlatPlanLaw$Plan", name := "form", desc := "(I)I" } : Jvm.MethodName) prog_14_method_4_code (3 : Nat) (Option.some FieldType.int)) ∈ gtbl := gt6 (i := 63) rfl rfl
theorem q_1264 : (Cond.methodLink "FlatPlanLaw" (151 : Nat) ({ cls := "FlatPlanLaw$Plan", name := "story", desc := "(I)I" } : Jvm.MethodName)) ∈ gtbl := gt6 (i := 64) rfl rfl
theorem q_1265 : (Cond.methodLink "FlatPlanLaw" (153 : Nat) ({ cls := "FlatPlan", name := "adOn", desc := "(II)I" } : Jvm.MethodName)) ∈ gtbl := gt6 (i := 65) rfl rfl
theorem q_1266 : (Cond.instanceMethod ({ cls := "FlatPlan", name := "adOn", desc := "(II)I" } : Jvm.MethodName)) ∈ gtbl := gt6 (i := 66) rfl rfl
theorem q_1267 : (Cond.selects "FlatPlan" ({ cls := "FlatPlan", name := "adOn", desc := "(II)I" } : Jvm.MethodName) ({ cls := "FlatPlan", name := "adOn", desc := "(II)I" } : Jvm.MethodName)) ∈ gtbl := gt6 (i := 67) rfl rfl
theorem q_1268 : (Cond.code ({ cls := "FlatPlan", name := "adOn", desc := "(II)I" } : Jvm.MethodName) prog_1_method_17_code (6 : Nat) (Option.some FieldType.int)) ∈ gtbl := gt6 (i := 68) rfl rfl
theorem q_1269 : (Cond.classLink "FlatPlanLaw" (156 : Nat) "java/lang/Integer") ∈ gtbl := gt6 (i := 69) rfl rfl
theorem q_1270 : (Cond.methodLink "FlatPlanLaw" (158 : Nat) ({ cls := "java/lang/Integer", name := "intValue", desc := "()I" } : Jvm.MethodName)) ∈ gtbl := gt6 (i := 70) rfl rfl
theorem q_1271 : (Cond.instanceMethod ({ cls := "java/lang/Integer", name := "intValue", desc := "()I" } : Jvm.MethodName)) ∈ gtbl := gt6 (i := 71) rfl rfl
theorem q_1272 : (Cond.selects "java/lang/Integer" ({ cls := "java/lang/Integer", name := "intValue", desc := "()I" } : Jvm.MethodName) ({ cls := "java/lang/Integer", name := "intValue", desc := "()I" } : Jvm.MethodName)) ∈ gtbl := gt6 (i := 72) rfl rfl
theorem q_1273 : (Cond.code ({ cls := "java/lang/Integer", name := "intValue", desc := "()I" } : Jvm.MethodName) prog_27_method_27_code (1 : Nat) (Option.some FieldType.int)) ∈ gtbl := gt6 (i := 73) rfl rfl
theorem q_1275 : (Cond.classLink "FlatPlanLaw" (163 : Nat) "java/lang/StringBuilder") ∈ gtbl := gt6 (i := 75) rfl rfl
theorem q_1276 : (Cond.instantiable "java/lang/StringBuilder" (4 : Nat)) ∈ gtbl := gt6 (i := 76) rfl rfl
theorem q_1277 : (Cond.methodLink "FlatPlanLaw" (165 : Nat) ({ cls := "java/lang/StringBuilder", name := "<init>", desc := "()V" } : Jvm.MethodName)) ∈ gtbl := gt6 (i := 77) rfl rfl
theorem q_1278 : (Cond.instanceMethod ({ cls := "java/lang/StringBuilder", name := "<init>", desc := "()V" } : Jvm.MethodName)) ∈ gtbl := gt6 (i := 78) rfl rfl
theorem q_1279 : (Cond.code ({ cls := "java/lang/StringBuilder", name := "<init>", desc := "()V" } : Jvm.MethodName) prog_34_method_1_code (1 : Nat) (Option.none : Option FieldType)) ∈ gtbl := gt6 (i := 79) rfl rfl
theorem q_1280 : (Cond.methodLink "java/lang/StringBuilder" (1 : Nat) ({ cls := "java/lang/AbstractStringBuilder", name := "<init>", desc := "(I)V" } : Jvm.MethodName)) ∈ gtbl := gt6 (i := 80) rfl rfl
theorem q_1281 : (Cond.instanceMethod ({ cls := "java/lang/AbstractStringBuilder", name := "<init>", desc := "(I)V" } : Jvm.MethodName)) ∈ gtbl := gt6 (i := 81) rfl rfl
theorem q_1282 : (Cond.code ({ cls := "java/lang/AbstractStringBuilder", name := "<init>", desc := "(I)V" } : Jvm.MethodName) prog_17_method_2_code (2 : Nat) (Option.none : Option FieldType)) ∈ gtbl := gt6 (i := 82) rfl rfl
theorem q_1283 : (Cond.methodLink "java/lang/AbstractStringBuilder" (3 : Nat) ({ cls := "java/lang/Object", name := "<init>", desc := "()V" } : Jvm.MethodName)) ∈ gtbl := gt6 (i := 83) rfl rfl
theorem q_1284 : (Cond.fieldLink "java/lang/AbstractStringBuilder" (18 : Nat) "java/lang/String" "COMPACT_STRINGS" "Z") ∈ gtbl := gt6 (i := 84) rfl rfl
theorem q_1285 : (Cond.methodLink "java/lang/AbstractStringBuilder" (26 : Nat) ({ cls := "java/lang/StringUTF16", name := "newBytesFor", desc := "(I)[B" } : Jvm.MethodName)) ∈ gtbl := gt6 (i := 85) rfl rfl
theorem q_1286 : (Cond.static ({ cls := "java/lang/StringUTF16", name := "newBytesFor", desc := "(I)[B" } : Jvm.MethodName)) ∈ gtbl := gt6 (i := 86) rfl rfl
theorem q_1287 : (Cond.code ({ cls := "java/lang/StringUTF16", name := "newBytesFor", desc := "(I)[B" } : Jvm.MethodName) prog_36_method_2_code (1 : Nat) (Option.some (FieldType.array FieldType.byte))) ∈ gtbl := gt6 (i := 87) rfl rfl
theorem q_1288 : (Cond.methodLink "java/lang/StringUTF16" (11 : Nat) ({ cls := "java/lang/StringUTF16", name := "newBytesLength", desc := "(I)I" } : Jvm.MethodName)) ∈ gtbl := gt6 (i := 88) rfl rfl
theorem q_1289 : (Cond.static ({ cls := "java/lang/StringUTF16", name := "newBytesLength", desc := "(I)I" } : Jvm.MethodName)) ∈ gtbl := gt6 (i := 89) rfl rfl
theorem q_1290 : (Cond.code ({ cls := "java/lang/StringUTF16", name := "newBytesLength", desc := "(I)I" } : Jvm.MethodName) prog_36_method_3_code (1 : Nat) (Option.some FieldType.int)) ∈ gtbl := gt6 (i := 90) rfl rfl
theorem q_1291 : (Cond.constant "java/lang/StringUTF16" (20 : Nat) (1073741823 : Int32)) ∈ gtbl := gt6 (i := 91) rfl rfl
theorem q_1292 : (Cond.fieldLink "java/lang/AbstractStringBuilder" (15 : Nat) "java/lang/AbstractStringBuilder" "value" "[B") ∈ gtbl := gt6 (i := 92) rfl rfl
theorem q_1293 : (Cond.fieldLink "java/lang/AbstractStringBuilder" (22 : Nat) "java/lang/AbstractStringBuilder" "coder" "B") ∈ gtbl := gt6 (i := 93) rfl rfl
theorem q_1294 : (Cond.fieldLink "java/lang/String" (1048 : Nat) "java/lang/AbstractStringBuilder" "maybeLatin1" "Z") ∈ gtbl := gt6 (i := 94) rfl rfl
theorem q_1295 : (Cond.fieldLink "java/lang/AbstractStringBuilder" (79 : Nat) "java/lang/AbstractStringBuilder" "count" "I") ∈ gtbl := gt6 (i := 95) rfl rfl
theorem q_1296 : (Cond.lays "java/lang/StringBuilder" "java/lang/AbstractStringBuilder" "value" "[B") ∈ gtbl := gt6 (i := 96) rfl rfl
theorem q_1298 : (Cond.lays "java/lang/StringBuilder" "java/lang/AbstractStringBuilder" "coder" "B") ∈ gtbl := gt6 (i := 98) rfl rfl
theorem q_1300 : (Cond.lays "java/lang/StringBuilder" "java/lang/AbstractStringBuilder" "maybeLatin1" "Z") ∈ gtbl := gt6 (i := 100) rfl rfl
theorem q_1302 : (Cond.lays "java/lang/StringBuilder" "java/lang/AbstractStringBuilder" "count" "I") ∈ gtbl := gt6 (i := 102) rfl rfl
theorem q_1306 : (Cond.methodLink "FlatPlanLaw" (168 : Nat) ({ cls := "java/lang/StringBuilder", name := "append", desc := "(Ljava/lang/String;)Ljava/lang/StringBuilder;" } : Jvm.MethodName)) ∈ gtbl := gt6 (i := 106) rfl rfl
theorem q_1307 : (Cond.instanceMethod ({ cls := "java/lang/StringBuilder", name := "append", desc := "(Ljava/lang/String;)Ljava/lang/StringBuilder;" } : Jvm.MethodName)) ∈ gtbl := gt6 (i := 107) rfl rfl
theorem q_1308 : (Cond.selects "java/lang/StringBuilder" ({ cls := "java/lang/StringBuilder", name := "append", desc := "(Ljava/lang/String;)Ljava/lang/StringBuilder;" } : Jvm.MethodName) ({ cls := "java/lang/StringBuilder", name := "append", desc := "(Ljava/lang/String;)Ljava/lang/StringBuilder;" } : Jvm.MethodName)) ∈ gtbl := gt6 (i := 108) rfl rfl
theorem q_1309 : (Cond.code ({ cls := "java/lang/StringBuilder", name := "append", desc := "(Ljava/lang/String;)Ljava/lang/StringBuilder;" } : Jvm.MethodName) prog_34_method_7_code (2 : Nat) (Option.some (FieldType.object "java/lang/StringBuilder"))) ∈ gtbl := gt6 (i := 109) rfl rfl
theorem q_1310 : (Cond.methodLink "java/lang/StringBuilder" (29 : Nat) ({ cls := "java/lang/AbstractStringBuilder", name := "append", desc := "(Ljava/lang/String;)Ljava/lang/AbstractStringBuilder;" } : Jvm.MethodName)) ∈ gtbl := gt6 (i := 110) rfl rfl
theorem q_1311 : (Cond.instanceMethod ({ cls := "java/lang/AbstractStringBuilder", name := "append", desc := "(Ljava/lang/String;)Ljava/lang/AbstractStringBuilder;" } : Jvm.MethodName)) ∈ gtbl := gt6 (i := 111) rfl rfl
theorem q_1312 : (Cond.code ({ cls := "java/lang/AbstractStringBuilder", name := "append", desc := "(Ljava/lang/String;)Ljava/lang/AbstractStringBuilder;" } : Jvm.MethodName) prog_17_method_22_code (3 : Nat) (Option.some (FieldType.object "java/lang/AbstractStringBuilder"))) ∈ gtbl := gt6 (i := 112) rfl rfl
theorem q_1313 : (Cond.methodLink "java/lang/AbstractStringBuilder" (204 : Nat) ({ cls := "java/lang/AbstractStringBuilder", name := "appendNull", desc := "()Ljava/lang/AbstractStringBuilder;" } : Jvm.MethodName)) ∈ gtbl := gt6 (i := 113) rfl rfl
theorem q_1315 : (Cond.instanceMethod ({ cls := "java/lang/AbstractStringBuilder", name := "appendNull", desc := "()Ljava/lang/AbstractStringBuilder;" } : Jvm.MethodName)) ∈ gtbl := gt6 (i := 115) rfl rfl
theorem q_1316 : (Cond.code ({ cls := "java/lang/AbstractStringBuilder", name := "appendNull", desc := "()Ljava/lang/AbstractStringBuilder;" } : Jvm.MethodName) prog_17_method_26_code (3 : Nat) (Option.some (FieldType.object "java/lang/AbstractStringBuilder"))) ∈ gtbl := gt6 (i := 116) rfl rfl
theorem q_1317 : (Cond.methodLink "java/lang/AbstractStringBuilder" (100 : Nat) ({ cls := "java/lang/AbstractStringBuilder", name := "ensureCapacityInternal", desc := "(I)V" } : Jvm.MethodName)) ∈ gtbl := gt6 (i := 117) rfl rfl
theorem q_1319 : (Cond.instanceMethod ({ cls := "java/lang/AbstractStringBuilder", name := "ensureCapacityInternal", desc := "(I)V" } : Jvm.MethodName)) ∈ gtbl := gt6 (i := 119) rfl rfl
theorem q_1320 : (Cond.code ({ cls := "java/lang/AbstractStringBuilder", name := "ensureCapacityInternal", desc := "(I)V" } : Jvm.MethodName) prog_17_method_9_code (3 : Nat) (Option.none : Option FieldType)) ∈ gtbl := gt6 (i := 120) rfl rfl
theorem q_1321 : (Cond.methodLink "java/lang/AbstractStringBuilder" (104 : Nat) ({ cls := "java/lang/AbstractStringBuilder", name := "newCapacity", desc := "(I)I" } : Jvm.MethodName)) ∈ gtbl := gt6 (i := 121) rfl rfl
theorem q_1323 : (Cond.instanceMethod ({ cls := "java/lang/AbstractStringBuilder", name := "newCapacity", desc := "(I)I" } : Jvm.MethodName)) ∈ gtbl := gt6 (i := 123) rfl rfl
theorem q_1324 : (Cond.code ({ cls := "java/lang/AbstractStringBuilder", name := "newCapacity", desc := "(I)I" } : Jvm.MethodName) prog_17_method_10_code (6 : Nat) (Option.some FieldType.int)) ∈ gtbl := gt6 (i := 124) rfl rfl
theorem q_1325 : (Cond.methodLink "java/lang/AbstractStringBuilder" (114 : Nat) ({ cls := "jdk/internal/util/ArraysSupport", name := "newLength", desc := "(III)I" } : Jvm.MethodName)) ∈ gtbl := gt6 (i := 125) rfl rfl
theorem q_1326 : (Cond.constant "java/lang/AbstractStringBuilder" (39 : Nat) (2147483647 : Int32)) ∈ gtbl := gt6 (i := 126) rfl rfl
theorem q_1327 : (Cond.methodLink "java/lang/AbstractStringBuilder" (108 : Nat) ({ cls := "java/util/Arrays", name := "copyOf", desc := "([BI)[B" } : Jvm.MethodName)) ∈ gtbl := gt6 (i := 127) rfl rfl
theorem q_1328 : (Cond.static ({ cls := "java/util/Arrays", name := "copyOf", desc := "([BI)[B" } : Jvm.MethodName)) ∈ gtbl := gt6 (i := 128) rfl rfl
theorem q_1329 : (Cond.code ({ cls := "java/util/Arrays", name := "copyOf", desc := "([BI)[B" } : Jvm.MethodName) prog_45_method_121_code (3 : Nat) (Option.some (FieldType.array FieldType.byte))) ∈ gtbl := gt6 (i := 129) rfl rfl
theorem q_1330 : (Cond.methodLink "java/util/Arrays" (310 : Nat) ({ cls := "[B", name := "clone", desc := "()Ljava/lang/Object;" } : Jvm.MethodName)) ∈ gtbl := gt6 (i := 130) rfl rfl
theorem q_1332 : (Cond.selects "[B" ({ cls := "[B", name := "clone", desc := "()Ljava/lang/Object;" } : Jvm.MethodName) ({ cls := "java/lang/Object", name := "clone", desc := "()Ljava/lang/Object;" } : Jvm.MethodName)) ∈ gtbl := gt6 (i := 132) rfl rfl
theorem q_1334 : (Cond.classLink "java/util/Arrays" (311 : Nat) "[B") ∈ gtbl := gt6 (i := 134) rfl rfl
theorem q_1335 : (Cond.methodLink "java/lang/AbstractStringBuilder" (83 : Nat) ({ cls := "java/lang/AbstractStringBuilder", name := "isLatin1", desc := "()Z" } : Jvm.MethodName)) ∈ gtbl := gt6 (i := 135) rfl rfl
theorem q_1336 : (Cond.instanceMethod ({ cls := "java/lang/AbstractStringBuilder", name := "isLatin1", desc := "()Z" } : Jvm.MethodName)) ∈ gtbl := gt6 (i := 136) rfl rfl
theorem q_1338 : (Cond.selects "java/lang/StringBuilder" ({ cls := "java/lang/AbstractStringBuilder", name := "isLatin1", desc := "()Z" } : Jvm.MethodName) ({ cls := "java/lang/AbstractStringBuilder", name := "isLatin1", desc := "()Z" } : Jvm.MethodName)) ∈ gtbl := gt6 (i := 138) rfl rfl
theorem q_1339 : (Cond.code ({ cls := "java/lang/AbstractStringBuilder", name := "isLatin1", desc := "()Z" } : Jvm.MethodName) prog_17_method_68_code (1 : Nat) (Option.some FieldType.boolean)) ∈ gtbl := gt6 (i := 139) rfl rfl
theorem q_1340 : (Cond.methodLink "java/lang/AbstractStringBuilder" (226 : Nat) ({ cls := "java/lang/StringUTF16", name := "putCharsAt", desc := "([BICCCC)I" } : Jvm.MethodName)) ∈ gtbl := gt6 (i := 140) rfl rfl
theorem q_1341 : (Cond.static ({ cls := "java/lang/StringUTF16", name := "putCharsAt", desc := "([BICCCC)I" } : Jvm.MethodName)) ∈ gtbl := gt6 (i := 141) rfl rfl
theorem q_1342 : (Cond.code ({ cls := "java/lang/StringUTF16", name := "putCharsAt", desc := "([BICCCC)I" } : Jvm.MethodName) prog_36_method_81_code (7 : Nat) (Option.some FieldType.int)) ∈ gtbl := gt6 (i := 142) rfl rfl
theorem q_1343 : (Cond.methodLink "java/lang/StringUTF16" (96 : Nat) ({ cls := "java/lang/StringUTF16", name := "checkBoundsBeginEnd", desc := "(II[B)V" } : Jvm.MethodName)) ∈ gtbl := gt6 (i := 143) rfl rfl
theorem q_1344 : (Cond.static ({ cls := "java/lang/StringUTF16", name := "checkBoundsBeginEnd", desc := "(II[B)V" } : Jvm.MethodName)) ∈ gtbl := gt6 (i := 144) rfl rfl
theorem q_1345 : (Cond.code ({ cls := "java/lang/StringUTF16", name := "checkBoundsBeginEnd", desc := "(II[B)V" } : Jvm.MethodName) prog_36_method_93_code (3 : Nat) (Option.none : Option FieldType)) ∈ gtbl := gt6 (i := 145) rfl rfl
theorem q_1346 : (Cond.methodLink "java/lang/StringUTF16" (241 : Nat) ({ cls := "java/lang/String", name := "checkBoundsBeginEnd", desc := "(III)V" } : Jvm.MethodName)) ∈ gtbl := gt6 (i := 146) rfl rfl
theorem q_1347 : (Cond.static ({ cls := "java/lang/String", name := "checkBoundsBeginEnd", desc := "(III)V" } : Jvm.MethodName)) ∈ gtbl := gt6 (i := 147) rfl rfl
theorem q_1348 : (Cond.code ({ cls := "java/lang/String", name := "checkBoundsBeginEnd", desc := "(III)V" } : Jvm.MethodName) prog_33_method_158_code (3 : Nat) (Option.none : Option FieldType)) ∈ gtbl := gt6 (i := 148) rfl rfl
theorem q_1349 : (Cond.methodLink "java/lang/String" (1062 : Nat) ({ cls := "jdk/internal/util/Preconditions", name := "checkFromToIndex", desc := "(IIILjava/util/function/BiFunction;)I" } : Jvm.MethodName)) ∈ gtbl := gt6 (i := 149) rfl rfl
theorem q_1350 : (Cond.static ({ cls := "jdk/internal/util/Preconditions", name := "checkFromToIndex", desc := "(IIILjava/util/function/BiFunction;)I" } : Jvm.MethodName)) ∈ gtbl := gt6 (i := 150) rfl rfl
theorem q_1351 : (Cond.code ({ cls := "jdk/internal/util/Preconditions", name := "checkFromToIndex", desc := "(IIILjava/util/function/BiFunction;)I" } : Jvm.MethodName) prog_53_method_12_code (4 : Nat) (Option.some FieldType.int)) ∈ gtbl := gt6 (i := 151) rfl rfl
theorem q_1352 : (Cond.methodLink "java/lang/StringUTF16" (111 : Nat) ({ cls := "java/lang/StringUTF16", name := "putChar", desc := "([BII)V" } : Jvm.MethodName)) ∈ gtbl := gt6 (i := 152) rfl rfl
theorem q_1353 : (Cond.static ({ cls := "java/lang/StringUTF16", name := "putChar", desc := "([BII)V" } : Jvm.MethodName)) ∈ gtbl := gt6 (i := 153) rfl rfl
theorem q_1354 : (Cond.code ({ cls := "java/lang/StringUTF16", name := "putChar", desc := "([BII)V" } : Jvm.MethodName) prog_36_method_4_code (3 : Nat) (Option.none : Option FieldType)) ∈ gtbl := gt6 (i := 154) rfl rfl
theorem q_1355 : (Cond.methodLink "java/lang/AbstractStringBuilder" (32 : Nat) ({ cls := "java/lang/String", name := "length", desc := "()I" } : Jvm.MethodName)) ∈ gtbl := gt6 (i := 155) rfl rfl
theorem q_1356 : (Cond.methodLink "java/lang/AbstractStringBuilder" (208 : Nat) ({ cls := "java/lang/AbstractStringBuilder", name := "putStringAt", desc := "(ILjava/lang/String;)V" } : Jvm.MethodName)) ∈ gtbl := gt6 (i := 156) rfl rfl
theorem q_1358 : (Cond.instanceMethod ({ cls := "java/lang/AbstractStringBuilder", name := "putStringAt", desc := "(ILjava/lang/String;)V" } : Jvm.MethodName)) ∈ gtbl := gt6 (i := 158) rfl rfl
theorem q_1359 : (Cond.code ({ cls := "java/lang/AbstractStringBuilder", name := "putStringAt", desc := "(ILjava/lang/String;)V" } : Jvm.MethodName) prog_17_method_73_code (3 : Nat) (Option.none : Option FieldType)) ∈ gtbl := gt6 (i := 159) rfl rfl
theorem q_1360 : (Cond.methodLink "java/lang/AbstractStringBuilder" (397 : Nat) ({ cls := "java/lang/AbstractStringBuilder", name := "inflateIfNeededFor", desc := "(Ljava/lang/String;)V" } : Jvm.MethodName)) ∈ gtbl := gt6 (i := 160) rfl rfl
theorem q_1362 : (Cond.instanceMethod ({ cls := "java/lang/AbstractStringBuilder", name := "inflateIfNeededFor", desc := "(Ljava/lang/String;)V" } : Jvm.MethodName)) ∈ gtbl := gt6 (i := 162) rfl rfl
theorem q_1363 : (Cond.code ({ cls := "java/lang/AbstractStringBuilder", name := "inflateIfNeededFor", desc := "(Ljava/lang/String;)V" } : Jvm.MethodName) prog_17_method_71_code (2 : Nat) (Option.none : Option FieldType)) ∈ gtbl := gt6 (i := 163) rfl rfl
theorem q_1364 : (Cond.methodLink "java/lang/AbstractStringBuilder" (40 : Nat) ({ cls := "java/lang/String", name := "coder", desc := "()B" } : Jvm.MethodName)) ∈ gtbl := gt6 (i := 164) rfl rfl
theorem q_1365 : (Cond.methodLink "java/lang/AbstractStringBuilder" (195 : Nat) ({ cls := "java/lang/AbstractStringBuilder", name := "inflate", desc := "()V" } : Jvm.MethodName)) ∈ gtbl := gt6 (i := 165) rfl rfl
theorem q_1367 : (Cond.instanceMethod ({ cls := "java/lang/AbstractStringBuilder", name := "inflate", desc := "()V" } : Jvm.MethodName)) ∈ gtbl := gt6 (i := 167) rfl rfl
theorem q_1368 : (Cond.code ({ cls := "java/lang/AbstractStringBuilder", name := "inflate", desc := "()V" } : Jvm.MethodName) prog_17_method_11_code (2 : Nat) (Option.none : Option FieldType)) ∈ gtbl := gt6 (i := 168) rfl rfl
theorem q_1369 : (Cond.methodLink "java/lang/AbstractStringBuilder" (125 : Nat) ({ cls := "java/lang/StringLatin1", name := "inflate", desc := "([BI[BII)V" } : Jvm.MethodName)) ∈ gtbl := gt6 (i := 169) rfl rfl
theorem q_1370 : (Cond.static ({ cls := "java/lang/StringLatin1", name := "inflate", desc := "([BI[BII)V" } : Jvm.MethodName)) ∈ gtbl := gt6 (i := 170) rfl rfl
theorem q_1371 : (Cond.code ({ cls := "java/lang/StringLatin1", name := "inflate", desc := "([BI[BII)V" } : Jvm.MethodName) prog_35_method_50_code (5 : Nat) (Option.none : Option FieldType)) ∈ gtbl := gt6 (i := 171) rfl rfl
theorem q_1372 : (Cond.methodLink "java/lang/StringLatin1" (240 : Nat) ({ cls := "java/lang/StringUTF16", name := "inflate", desc := "([BI[BII)V" } : Jvm.MethodName)) ∈ gtbl := gt6 (i := 172) rfl rfl
theorem q_1373 : (Cond.static ({ cls := "java/lang/StringUTF16", name := "inflate", desc := "([BI[BII)V" } : Jvm.MethodName)) ∈ gtbl := gt6 (i := 173) rfl rfl
theorem q_1374 : (Cond.code ({ cls := "java/lang/StringUTF16", name := "inflate", desc := "([BI[BII)V" } : Jvm.MethodName) prog_36_method_86_code (6 : Nat) (Option.none : Option FieldType)) ∈ gtbl := gt6 (i := 174) rfl rfl
theorem q_1375 : (Cond.methodLink "java/lang/StringUTF16" (173 : Nat) ({ cls := "java/lang/StringUTF16", name := "checkBoundsOffCount", desc := "(II[B)V" } : Jvm.MethodName)) ∈ gtbl := gt6 (i := 175) rfl rfl
theorem q_1376 : (Cond.static ({ cls := "java/lang/StringUTF16", name := "checkBoundsOffCount", desc := "(II[B)V" } : Jvm.MethodName)) ∈ gtbl := gt6 (i := 176) rfl rfl
theorem q_1377 : (Cond.code ({ cls := "java/lang/StringUTF16", name := "checkBoundsOffCount", desc := "(II[B)V" } : Jvm.MethodName) prog_36_method_94_code (3 : Nat) (Option.none : Option FieldType)) ∈ gtbl := gt6 (i := 177) rfl rfl
theorem q_1378 : (Cond.methodLink "java/lang/StringUTF16" (419 : Nat) ({ cls := "java/lang/String", name := "checkBoundsOffCount", desc := "(III)I" } : Jvm.MethodName)) ∈ gtbl := gt6 (i := 178) rfl rfl
theorem q_1379 : (Cond.static ({ cls := "java/lang/String", name := "checkBoundsOffCount", desc := "(III)I" } : Jvm.MethodName)) ∈ gtbl := gt6 (i := 179) rfl rfl
theorem q_1380 : (Cond.code ({ cls := "java/lang/String", name := "checkBoundsOffCount", desc := "(III)I" } : Jvm.MethodName) prog_33_method_157_code (3 : Nat) (Option.some FieldType.int)) ∈ gtbl := gt6 (i := 180) rfl rfl
theorem q_1381 : (Cond.methodLink "java/lang/String" (1065 : Nat) ({ cls := "jdk/internal/util/Preconditions", name := "checkFromIndexSize", desc := "(IIILjava/util/function/BiFunction;)I" } : Jvm.MethodName)) ∈ gtbl := gt6 (i := 181) rfl rfl
theorem q_1382 : (Cond.static ({ cls := "jdk/internal/util/Preconditions", name := "checkFromIndexSize", desc := "(IIILjava/util/function/BiFunction;)I" } : Jvm.MethodName)) ∈ gtbl := gt6 (i := 182) rfl rfl
theorem q_1383 : (Cond.code ({ cls := "jdk/internal/util/Preconditions", name := "checkFromIndexSize", desc := "(IIILjava/util/function/BiFunction;)I" } : Jvm.MethodName) prog_53_method_13_code (4 : Nat) (Option.some FieldType.int)) ∈ gtbl := gt6 (i := 183) rfl rfl
theorem q_1384 : (Cond.methodLink "java/lang/AbstractStringBuilder" (399 : Nat) ({ cls := "java/lang/String", name := "getBytes", desc := "([BIB)V" } : Jvm.MethodName)) ∈ gtbl := gt6 (i := 184) rfl rfl
theorem q_1385 : (Cond.instanceMethod ({ cls := "java/lang/String", name := "getBytes", desc := "([BIB)V" } : Jvm.MethodName)) ∈ gtbl := gt6 (i := 185) rfl rfl
theorem q_1386 : (Cond.selects "java/lang/String" ({ cls := "java/lang/String", name := "getBytes", desc := "([BIB)V" } : Jvm.MethodName) ({ cls := "java/lang/String", name := "getBytes", desc := "([BIB)V" } : Jvm.MethodName)) ∈ gtbl := gt6 (i := 186) rfl rfl
theorem q_1387 : (Cond.code ({ cls := "java/lang/String", name := "getBytes", desc := "([BIB)V" } : Jvm.MethodName) prog_33_method_147_code (4 : Nat) (Option.none : Option FieldType)) ∈ gtbl := gt6 (i := 187) rfl rfl
theorem q_1388 : (Cond.methodLink "java/lang/String" (212 : Nat) ({ cls := "java/lang/System", name := "arraycopy", desc := "(Ljava/lang/Object;ILjava/lang/Object;II)V" } : Jvm.MethodName)) ∈ gtbl := gt6 (i := 188) rfl rfl
theorem q_1389 : (Cond.methodLink "java/lang/String" (106 : Nat) ({ cls := "java/lang/StringLatin1", name := "inflate", desc := "([BI[BII)V" } : Jvm.MethodName)) ∈ gtbl := gt6 (i := 189) rfl rfl
theorem q_1390 : (Cond.methodLink "FlatPlanLaw" (172 : Nat) ({ cls := "java/lang/StringBuilder", name := "append", desc := "(I)Ljava/lang/StringBuilder;" } : Jvm.MethodName)) ∈ gtbl := gt6 (i := 190) rfl rfl
theorem q_1391 : (Cond.instanceMethod ({ cls := "java/lang/StringBuilder", name := "append", desc := "(I)Ljava/lang/StringBuilder;" } : Jvm.MethodName)) ∈ gtbl := gt6 (i := 191) rfl rfl
theorem q_1392 : (Cond.selects "java/lang/StringBuilder" ({ cls := "java/lang/StringBuilder", name := "append", desc := "(I)Ljava/lang/StringBuilder;" } : Jvm.MethodName) ({ cls := "java/lang/StringBuilder", name := "append", desc := "(I)Ljava/lang/StringBuilder;" } : Jvm.MethodName)) ∈ gtbl := gt6 (i := 192) rfl rfl
theorem q_1393 : (Cond.code ({ cls := "java/lang/StringBuilder", name := "append", desc := "(I)Ljava/lang/StringBuilder;" } : Jvm.MethodName) prog_34_method_15_code (2 : Nat) (Option.some (FieldType.object "java/lang/StringBuilder"))) ∈ gtbl := gt6 (i := 193) rfl rfl
theorem q_1394 : (Cond.methodLink "java/lang/StringBuilder" (53 : Nat) ({ cls := "java/lang/AbstractStringBuilder", name := "append", desc := "(I)Ljava/lang/AbstractStringBuilder;" } : Jvm.MethodName)) ∈ gtbl := gt6 (i := 194) rfl rfl
theorem q_1395 : (Cond.instanceMethod ({ cls := "java/lang/AbstractStringBuilder", name := "append", desc := "(I)Ljava/lang/AbstractStringBuilder;" } : Jvm.MethodName)) ∈ gtbl := gt6 (i := 195) rfl rfl
theorem q_1396 : (Cond.code ({ cls := "java/lang/AbstractStringBuilder", name := "append", desc := "(I)Ljava/lang/AbstractStringBuilder;" } : Jvm.MethodName) prog_17_method_32_code (4 : Nat) (Option.some (FieldType.object "java/lang/AbstractStringBuilder"))) ∈ gtbl := gt6 (i := 196) rfl rfl
theorem q_1397 : (Cond.methodLink "java/lang/AbstractStringBuilder" (245 : Nat) ({ cls := "java/lang/Integer", name := "stringSize", desc := "(I)I" } : Jvm.MethodName)) ∈ gtbl := gt6 (i := 197) rfl rfl
theorem q_1398 : (Cond.static ({ cls := "java/lang/Integer", name := "stringSize", desc := "(I)I" } : Jvm.MethodName)) ∈ gtbl := gt6 (i := 198) rfl rfl
theorem q_1399 : (Cond.code ({ cls := "java/lang/Integer", name := "stringSize", desc := "(I)I" } : Jvm.MethodName) prog_27_method_13_code (4 : Nat) (Option.some FieldType.int)) ∈ gtbl := gt6 (i := 199) rfl rfl
theorem q_1400 : (Cond.methodLink "java/lang/AbstractStringBuilder" (248 : Nat) ({ cls := "java/lang/Integer", name := "getChars", desc := "(II[B)I" } : Jvm.MethodName)) ∈ gtbl := gt6 (i := 200) rfl rfl
theorem q_1401 : (Cond.static ({ cls := "java/lang/Integer", name := "getChars", desc := "(II[B)I" } : Jvm.MethodName)) ∈ gtbl := gt6 (i := 201) rfl rfl
theorem q_1402 : (Cond.code ({ cls := "java/lang/Integer", name := "getChars", desc := "(II[B)I" } : Jvm.MethodName) prog_27_method_12_code (7 : Nat) (Option.some FieldType.int)) ∈ gtbl := gt6 (i := 202) rfl rfl
theorem q_1403 : (Cond.fieldLink "java/lang/Integer" (83 : Nat) "java/lang/Integer" "DigitOnes" "[B") ∈ gtbl := gt6 (i := 203) rfl rfl
theorem q_1405 : (Cond.fieldLink "java/lang/Integer" (87 : Nat) "java/lang/Integer" "DigitTens" "[B") ∈ gtbl := gt6 (i := 205) rfl rfl
theorem q_1407 : (Cond.methodLink "java/lang/AbstractStringBuilder" (251 : Nat) ({ cls := "java/lang/StringUTF16", name := "getChars", desc := "(III[B)I" } : Jvm.MethodName)) ∈ gtbl := gt6 (i := 207) rfl rfl
theorem q_1408 : (Cond.static ({ cls := "java/lang/StringUTF16", name := "getChars", desc := "(III[B)I" } : Jvm.MethodName)) ∈ gtbl := gt6 (i := 208) rfl rfl
theorem q_1409 : (Cond.code ({ cls := "java/lang/StringUTF16", name := "getChars", desc := "(III[B)I" } : Jvm.MethodName) prog_36_method_77_code (5 : Nat) (Option.some FieldType.int)) ∈ gtbl := gt6 (i := 209) rfl rfl
theorem q_1410 : (Cond.methodLink "java/lang/StringUTF16" (393 : Nat) ({ cls := "java/lang/StringUTF16", name := "getChars", desc := "(II[B)I" } : Jvm.MethodName)) ∈ gtbl := gt6 (i := 210) rfl rfl
theorem q_1411 : (Cond.static ({ cls := "java/lang/StringUTF16", name := "getChars", desc := "(II[B)I" } : Jvm.MethodName)) ∈ gtbl := gt6 (i := 211) rfl rfl
theorem q_1412 : (Cond.code ({ cls := "java/lang/StringUTF16", name := "getChars", desc := "(II[B)I" } : Jvm.MethodName) prog_36_method_89_code (7 : Nat) (Option.some FieldType.int)) ∈ gtbl := gt6 (i := 212) rfl rfl
theorem q_1413 : (Cond.fieldLink "java/lang/StringUTF16" (403 : Nat) "java/lang/Integer" "DigitOnes" "[B") ∈ gtbl := gt6 (i := 213) rfl rfl
theorem q_1414 : (Cond.fieldLink "java/lang/StringUTF16" (407 : Nat) "java/lang/Integer" "DigitTens" "[B") ∈ gtbl := gt6 (i := 214) rfl rfl
theorem q_1415 : (Cond.methodLink "FlatPlanLaw" (175 : Nat) ({ cls := "java/lang/StringBuilder", name := "toString", desc := "()Ljava/lang/String;" } : Jvm.MethodName)) ∈ gtbl := gt6 (i := 215) rfl rfl
theorem q_1416 : (Cond.instanceMethod ({ cls := "java/lang/StringBuilder", name := "toString", desc := "()Ljava/lang/String;" } : Jvm.MethodName)) ∈ gtbl := gt6 (i := 216) rfl rfl
theorem q_1417 : (Cond.selects "java/lang/StringBuilder" ({ cls := "java/lang/StringBuilder", name := "toString", desc := "()Ljava/lang/String;" } : Jvm.MethodName) ({ cls := "java/lang/StringBuilder", name := "toString", desc := "()Ljava/lang/String;" } : Jvm.MethodName)) ∈ gtbl := gt6 (i := 217) rfl rfl
theorem q_1418 : (Cond.code ({ cls := "java/lang/StringBuilder", name := "toString", desc := "()Ljava/lang/String;" } : Jvm.MethodName) prog_34_method_42_code (1 : Nat) (Option.some (FieldType.object "java/lang/String"))) ∈ gtbl := gt6 (i := 218) rfl rfl
theorem q_1419 : (Cond.classLink "java/lang/StringBuilder" (18 : Nat) "java/lang/String") ∈ gtbl := gt6 (i := 219) rfl rfl
theorem q_1420 : (Cond.methodLink "java/lang/StringBuilder" (137 : Nat) ({ cls := "java/lang/String", name := "<init>", desc := "(Ljava/lang/StringBuilder;)V" } : Jvm.MethodName)) ∈ gtbl := gt6 (i := 220) rfl rfl
theorem q_1421 : (Cond.instanceMethod ({ cls := "java/lang/String", name := "<init>", desc := "(Ljava/lang/StringBuilder;)V" } : Jvm.MethodName)) ∈ gtbl := gt6 (i := 221) rfl rfl
theorem q_1422 : (Cond.code ({ cls := "java/lang/String", name := "<init>", desc := "(Ljava/lang/StringBuilder;)V" } : Jvm.MethodName) prog_33_method_53_code (2 : Nat) (Option.none : Option FieldType)) ∈ gtbl := gt6 (i := 222) rfl rfl
theorem q_1423 : (Cond.methodLink "java/lang/String" (489 : Nat) ({ cls := "java/lang/String", name := "<init>", desc := "(Ljava/lang/AbstractStringBuilder;Ljava/lang/Void;)V" } : Jvm.MethodName)) ∈ gtbl := gt6 (i := 223) rfl rfl
theorem q_1424 : (Cond.instanceMethod ({ cls := "java/lang/String", name := "<init>", desc := "(Ljava/lang/AbstractStringBuilder;Ljava/lang/Void;)V" } : Jvm.MethodName)) ∈ gtbl := gt6 (i := 224) rfl rfl
theorem q_1425 : (Cond.code ({ cls := "java/lang/String", name := "<init>", desc := "(Ljava/lang/AbstractStringBuilder;Ljava/lang/Void;)V" } : Jvm.MethodName) prog_33_method_150_code (5 : Nat) (Option.none : Option FieldType)) ∈ gtbl := gt6 (i := 225) rfl rfl
theorem q_1426 : (Cond.methodLink "java/lang/String" (1 : Nat) ({ cls := "java/lang/Object", name := "<init>", desc := "()V" } : Jvm.MethodName)) ∈ gtbl := gt6 (i := 226) rfl rfl
theorem q_1427 : (Cond.methodLink "java/lang/String" (552 : Nat) ({ cls := "java/lang/AbstractStringBuilder", name := "getValue", desc := "()[B" } : Jvm.MethodName)) ∈ gtbl := gt6 (i := 227) rfl rfl
theorem q_1428 : (Cond.instanceMethod ({ cls := "java/lang/AbstractStringBuilder", name := "getValue", desc := "()[B" } : Jvm.MethodName)) ∈ gtbl := gt6 (i := 228) rfl rfl
theorem q_1430 : (Cond.selects "java/lang/StringBuilder" ({ cls := "java/lang/AbstractStringBuilder", name := "getValue", desc := "()[B" } : Jvm.MethodName) ({ cls := "java/lang/AbstractStringBuilder", name := "getValue", desc := "()[B" } : Jvm.MethodName)) ∈ gtbl := gt6 (i := 230) rfl rfl
theorem q_1431 : (Cond.code ({ cls := "java/lang/AbstractStringBuilder", name := "getValue", desc := "()[B" } : Jvm.MethodName) prog_17_method_64_code (1 : Nat) (Option.some (FieldType.array FieldType.byte))) ∈ gtbl := gt6 (i := 231) rfl rfl
theorem q_1432 : (Cond.methodLink "java/lang/String" (549 : Nat) ({ cls := "java/lang/AbstractStringBuilder", name := "length", desc := "()I" } : Jvm.MethodName)) ∈ gtbl := gt6 (i := 232) rfl rfl
theorem q_1433 : (Cond.instanceMethod ({ cls := "java/lang/AbstractStringBuilder", name := "length", desc := "()I" } : Jvm.MethodName)) ∈ gtbl := gt6 (i := 233) rfl rfl
theorem q_1435 : (Cond.selects "java/lang/StringBuilder" ({ cls := "java/lang/AbstractStringBuilder", name := "length", desc := "()I" } : Jvm.MethodName) ({ cls := "java/lang/StringBuilder", name := "length", desc := "()I" } : Jvm.MethodName)) ∈ gtbl := gt6 (i := 235) rfl rfl
theorem q_1436 : (Cond.instanceMethod ({ cls := "java/lang/StringBuilder", name := "length", desc := "()I" } : Jvm.MethodName)) ∈ gtbl := gt6 (i := 236) rfl rfl
theorem q_1437 : (Cond.code ({ cls := "java/lang/StringBuilder", name := "length", desc := "()I" } : Jvm.MethodName) prog_34_method_93_code (1 : Nat) (Option.some FieldType.int)) ∈ gtbl := gt6 (i := 237) rfl rfl
theorem q_1438 : (Cond.methodLink "java/lang/StringBuilder" (343 : Nat) ({ cls := "java/lang/AbstractStringBuilder", name := "length", desc := "()I" } : Jvm.MethodName)) ∈ gtbl := gt6 (i := 238) rfl rfl
theorem q_1439 : (Cond.code ({ cls := "java/lang/AbstractStringBuilder", name := "length", desc := "()I" } : Jvm.MethodName) prog_17_method_6_code (1 : Nat) (Option.some FieldType.int)) ∈ gtbl := gt6 (i := 239) rfl rfl
theorem q_1440 : (Cond.methodLink "java/lang/String" (1047 : Nat) ({ cls := "java/lang/AbstractStringBuilder", name := "isLatin1", desc := "()Z" } : Jvm.MethodName)) ∈ gtbl := gt7 (i := 0) rfl rfl
theorem q_1441 : (Cond.methodLink "java/lang/String" (54 : Nat) ({ cls := "java/util/Arrays", name := "copyOfRange", desc := "([BII)[B" } : Jvm.MethodName)) ∈ gtbl := gt7 (i := 1) rfl rfl
theorem q_1442 : (Cond.static ({ cls := "java/util/Arrays", name := "copyOfRange", desc := "([BII)[B" } : Jvm.MethodName)) ∈ gtbl := gt7 (i := 2) rfl rfl
theorem q_1443 : (Cond.code ({ cls := "java/util/Arrays", name := "copyOfRange", desc := "([BII)[B" } : Jvm.MethodName) prog_45_method_132_code (3 : Nat) (Option.some (FieldType.array FieldType.byte))) ∈ gtbl := gt7 (i := 3) rfl rfl
theorem q_1444 : (Cond.methodLink "java/util/Arrays" (339 : Nat) ({ cls := "java/util/Arrays", name := "copyOfRangeByte", desc := "([BII)[B" } : Jvm.MethodName)) ∈ gtbl := gt7 (i := 4) rfl rfl
theorem q_1445 : (Cond.static ({ cls := "java/util/Arrays", name := "copyOfRangeByte", desc := "([BII)[B" } : Jvm.MethodName)) ∈ gtbl := gt7 (i := 5) rfl rfl
theorem q_1446 : (Cond.code ({ cls := "java/util/Arrays", name := "copyOfRangeByte", desc := "([BII)[B" } : Jvm.MethodName) prog_45_method_133_code (5 : Nat) (Option.some (FieldType.array FieldType.byte))) ∈ gtbl := gt7 (i := 6) rfl rfl
theorem q_1447 : (Cond.methodLink "java/util/Arrays" (343 : Nat) ({ cls := "java/util/Arrays", name := "checkLength", desc := "(II)V" } : Jvm.MethodName)) ∈ gtbl := gt7 (i := 7) rfl rfl
theorem q_1448 : (Cond.static ({ cls := "java/util/Arrays", name := "checkLength", desc := "(II)V" } : Jvm.MethodName)) ∈ gtbl := gt7 (i := 8) rfl rfl
theorem q_1449 : (Cond.code ({ cls := "java/util/Arrays", name := "checkLength", desc := "(II)V" } : Jvm.MethodName) prog_45_method_131_code (2 : Nat) (Option.none : Option FieldType)) ∈ gtbl := gt7 (i := 9) rfl rfl
theorem q_1450 : (Cond.methodLink "java/lang/String" (1051 : Nat) ({ cls := "java/lang/StringUTF16", name := "compress", desc := "([BII)[B" } : Jvm.MethodName)) ∈ gtbl := gt7 (i := 10) rfl rfl
theorem q_1451 : (Cond.static ({ cls := "java/lang/StringUTF16", name := "compress", desc := "([BII)[B" } : Jvm.MethodName)) ∈ gtbl := gt7 (i := 11) rfl rfl
theorem q_1452 : (Cond.code ({ cls := "java/lang/StringUTF16", name := "compress", desc := "([BII)[B" } : Jvm.MethodName) prog_36_method_17_code (6 : Nat) (Option.some (FieldType.array FieldType.byte))) ∈ gtbl := gt7 (i := 12) rfl rfl
theorem q_1453 : (Cond.methodLink "java/lang/StringUTF16" (123 : Nat) ({ cls := "java/lang/StringUTF16", name := "compress", desc := "([BI[BII)I" } : Jvm.MethodName)) ∈ gtbl := gt7 (i := 13) rfl rfl
theorem q_1454 : (Cond.static ({ cls := "java/lang/StringUTF16", name := "compress", desc := "([BI[BII)I" } : Jvm.MethodName)) ∈ gtbl := gt7 (i := 14) rfl rfl
theorem q_1455 : (Cond.code ({ cls := "java/lang/StringUTF16", name := "compress", desc := "([BI[BII)I" } : Jvm.MethodName) prog_36_method_22_code (7 : Nat) (Option.some FieldType.int)) ∈ gtbl := gt7 (i := 15) rfl rfl
theorem q_1456 : (Cond.methodLink "java/lang/StringUTF16" (126 : Nat) ({ cls := "java/util/Arrays", name := "copyOfRange", desc := "([BII)[B" } : Jvm.MethodName)) ∈ gtbl := gt7 (i := 16) rfl rfl
theorem q_1457 : (Cond.methodLink "java/lang/String" (47 : Nat) ({ cls := "java/lang/StringUTF16", name := "coderFromArrayLen", desc := "([BI)B" } : Jvm.MethodName)) ∈ gtbl := gt7 (i := 17) rfl rfl
theorem q_1458 : (Cond.static ({ cls := "java/lang/StringUTF16", name := "coderFromArrayLen", desc := "([BI)B" } : Jvm.MethodName)) ∈ gtbl := gt7 (i := 18) rfl rfl
theorem q_1459 : (Cond.code ({ cls := "java/lang/StringUTF16", name := "coderFromArrayLen", desc := "([BI)B" } : Jvm.MethodName) prog_36_method_15_code (2 : Nat) (Option.some FieldType.byte)) ∈ gtbl := gt7 (i := 19) rfl rfl
theorem q_1460 : (Cond.fieldLink "java/lang/String" (9 : Nat) "java/lang/String" "value" "[B") ∈ gtbl := gt7 (i := 20) rfl rfl
theorem q_1461 : (Cond.fieldLink "java/lang/String" (15 : Nat) "java/lang/String" "coder" "B") ∈ gtbl := gt7 (i := 21) rfl rfl
theorem q_1462 : (Cond.lays "java/lang/String" "java/lang/String" "hash" "I") ∈ gtbl := gt7 (i := 22) rfl rfl
theorem q_1464 : (Cond.lays "java/lang/String" "java/lang/String" "hashIsZero" "Z") ∈ gtbl := gt7 (i := 24) rfl rfl
theorem q_1467 : (Cond.methodLink "FlatPlanLaw" (179 : Nat) ({ cls := "java/util/ArrayList", name := "iterator", desc := "()Ljava/util/Iterator;" } : Jvm.MethodName)) ∈ gtbl := gt7 (i := 27) rfl rfl
theorem q_1469 : (Cond.methodLink "FlatPlanLaw" (183 : Nat) ({ cls := "java/util/Iterator", name := "hasNext", desc := "()Z" } : Jvm.MethodName)) ∈ gtbl := gt7 (i := 29) rfl rfl
theorem q_1471 : (Cond.methodLink "FlatPlanLaw" (189 : Nat) ({ cls := "java/util/Iterator", name := "next", desc := "()Ljava/lang/Object;" } : Jvm.MethodName)) ∈ gtbl := gt7 (i := 31) rfl rfl
theorem q_1475 : (Cond.methodLink "FlatPlanLaw" (199 : Nat) ({ cls := "FlatPlan", name := "describe", desc := "(I)I" } : Jvm.MethodName)) ∈ gtbl := gt7 (i := 35) rfl rfl
theorem q_1476 : (Cond.instanceMethod ({ cls := "FlatPlan", name := "describe", desc := "(I)I" } : Jvm.MethodName)) ∈ gtbl := gt7 (i := 36) rfl rfl
theorem q_1477 : (Cond.selects "FlatPlan" ({ cls := "FlatPlan", name := "describe", desc := "(I)I" } : Jvm.MethodName) ({ cls := "FlatPlan", name := "describe", desc := "(I)I" } : Jvm.MethodName)) ∈ gtbl := gt7 (i := 37) rfl rfl
theorem q_1478 : (Cond.code ({ cls := "FlatPlan", name := "describe", desc := "(I)I" } : Jvm.MethodName) prog_1_method_58_code (4 : Nat) (Option.some FieldType.int)) ∈ gtbl := gt7 (i := 38) rfl rfl
theorem q_1479 : (Cond.methodLink "FlatPlan" (351 : Nat) ({ cls := "FlatPlan$Bytes", name := "addItem", desc := "(CI)V" } : Jvm.MethodName)) ∈ gtbl := gt7 (i := 39) rfl rfl
theorem q_1480 : (Cond.instanceMethod ({ cls := "FlatPlan$Bytes", name := "addItem", desc := "(CI)V" } : Jvm.MethodName)) ∈ gtbl := gt7 (i := 40) rfl rfl
theorem q_1481 : (Cond.selects "FlatPlan$Bytes" ({ cls := "FlatPlan$Bytes", name := "addItem", desc := "(CI)V" } : Jvm.MethodName) ({ cls := "FlatPlan$Bytes", name := "addItem", desc := "(CI)V" } : Jvm.MethodName)) ∈ gtbl := gt7 (i := 41) rfl rfl
theorem q_1482 : (Cond.code ({ cls := "FlatPlan$Bytes", name := "addItem", desc := "(CI)V" } : Jvm.MethodName) prog_3_method_4_code (3 : Nat) (Option.none : Option FieldType)) ∈ gtbl := gt7 (i := 42) rfl rfl
theorem q_1483 : (Cond.methodLink "FlatPlanLaw" (205 : Nat) ({ cls := "FlatPlan", name := "emptiest", desc := "(I)I" } : Jvm.MethodName)) ∈ gtbl := gt7 (i := 43) rfl rfl
theorem q_1484 : (Cond.instanceMethod ({ cls := "FlatPlan", name := "emptiest", desc := "(I)I" } : Jvm.MethodName)) ∈ gtbl := gt7 (i := 44) rfl rfl
theorem q_1485 : (Cond.selects "FlatPlan" ({ cls := "FlatPlan", name := "emptiest", desc := "(I)I" } : Jvm.MethodName) ({ cls := "FlatPlan", name := "emptiest", desc := "(I)I" } : Jvm.MethodName)) ∈ gtbl := gt7 (i := 45) rfl rfl
theorem q_1486 : (Cond.code ({ cls := "FlatPlan", name := "emptiest", desc := "(I)I" } : Jvm.MethodName) prog_1_method_47_code (5 : Nat) (Option.some FieldType.int)) ∈ gtbl := gt7 (i := 46) rfl rfl
theorem q_1487 : (Cond.methodLink "FlatPlanLaw" (208 : Nat) ({ cls := "FlatPlan", name := "fill", desc := "()D" } : Jvm.MethodName)) ∈ gtbl := gt7 (i := 47) rfl rfl
theorem q_1488 : (Cond.instanceMethod ({ cls := "FlatPlan", name := "fill", desc := "()D" } : Jvm.MethodName)) ∈ gtbl := gt7 (i := 48) rfl rfl
theorem q_1489 : (Cond.selects "FlatPlan" ({ cls := "FlatPlan", name := "fill", desc := "()D" } : Jvm.MethodName) ({ cls := "FlatPlan", name := "fill", desc := "()D" } : Jvm.MethodName)) ∈ gtbl := gt7 (i := 49) rfl rfl
theorem q_1490 : (Cond.code ({ cls := "FlatPlan", name := "fill", desc := "()D" } : Jvm.MethodName) prog_1_method_56_code (3 : Nat) (Option.some FieldType.double)) ∈ gtbl := gt7 (i := 50) rfl rfl
theorem q_1491 : (Cond.methodLink "FlatPlanLaw" (211 : Nat) ({ cls := "FlatPlanLaw", name := "runs", desc := "(LFlatPlan;LFlatPlanLaw$Plan;)Z" } : Jvm.MethodName)) ∈ gtbl := gt7 (i := 51) rfl rfl
theorem q_1492 : (Cond.static ({ cls := "FlatPlanLaw", name := "runs", desc := "(LFlatPlan;LFlatPlanLaw$Plan;)Z" } : Jvm.MethodName)) ∈ gtbl := gt7 (i := 52) rfl rfl
theorem q_1493 : (Cond.code ({ cls := "FlatPlanLaw", name := "runs", desc := "(LFlatPlan;LFlatPlanLaw$Plan;)Z" } : Jvm.MethodName) method_9_code (7 : Nat) (Option.some FieldType.boolean)) ∈ gtbl := gt7 (i := 53) rfl rfl
theorem q_1494 : (Cond.methodLink "FlatPlanLaw" (215 : Nat) ({ cls := "FlatPlan", name := "emptyRun", desc := "(I)I" } : Jvm.MethodName)) ∈ gtbl := gt7 (i := 54) rfl rfl
theorem q_1495 : (Cond.instanceMethod ({ cls := "FlatPlan", name := "emptyRun", desc := "(I)I" } : Jvm.MethodName)) ∈ gtbl := gt7 (i := 55) rfl rfl
theorem q_1496 : (Cond.selects "FlatPlan" ({ cls := "FlatPlan", name := "emptyRun", desc := "(I)I" } : Jvm.MethodName) ({ cls := "FlatPlan", name := "emptyRun", desc := "(I)I" } : Jvm.MethodName)) ∈ gtbl := gt7 (i := 56) rfl rfl
theorem q_1497 : (Cond.code ({ cls := "FlatPlan", name := "emptyRun", desc := "(I)I" } : Jvm.MethodName) prog_1_method_46_code (4 : Nat) (Option.some FieldType.int)) ∈ gtbl := gt7 (i := 57) rfl rfl
theorem q_1498 : (Cond.classLink "FlatPlan" (148 : Nat) "java/lang/IllegalArgumentException") ∈ gtbl := gt7 (i := 58) rfl rfl
theorem q_1499 : (Cond.instantiable "java/lang/IllegalArgumentException" (6 : Nat)) ∈ gtbl := gt7 (i := 59) rfl rfl
theorem q_1501 : (Cond.selects "java/lang/IllegalArgumentException" ({ cls := "java/lang/Throwable", name := "fillInStackTrace", desc := "(I)Ljava/lang/Throwable;" } : Jvm.MethodName) ({ cls := "java/lang/Throwable", name := "fillInStackTrace", desc := "(I)Ljava/lang/Throwable;" } : Jvm.MethodName)) ∈ gtbl := gt7 (i := 61) rfl rfl
theorem q_1502 : (Cond.lays "java/lang/IllegalArgumentException" "java/lang/Throwable" "cause" "Ljava/lang/Throwable;") ∈ gtbl := gt7 (i := 62) rfl rfl
theorem q_1503 : (Cond.lays "java/lang/IllegalArgumentException" "java/lang/Throwable" "stackTrace" "[Ljava/lang/StackTraceElement;") ∈ gtbl := gt7 (i := 63) rfl rfl
theorem q_1504 : (Cond.lays "java/lang/IllegalArgumentException" "java/lang/Throwable" "suppressedExceptions" "Ljava/util/List;") ∈ gtbl := gt7 (i := 64) rfl rfl
theorem q_1505 : (Cond.lays "java/lang/IllegalArgumentException" "java/lang/Throwable" "detailMessage" "Ljava/lang/String;") ∈ gtbl := gt7 (i := 65) rfl rfl
theorem q_1506 : (Cond.lays "java/lang/IllegalArgumentException" "java/lang/Throwable" "backtrace" "Ljava/lang/Object;") ∈ gtbl := gt7 (i := 66) rfl rfl
theorem q_1508 : (Cond.methodLink "FlatPlan" (152 : Nat) ({ cls := "java/lang/IllegalArgumentException", name := "<init>", desc := "(Ljava/lang/String;)V" } : Jvm.MethodName)) ∈ gtbl := gt7 (i := 68) rfl rfl
theorem q_1509 : (Cond.instanceMethod ({ cls := "java/lang/IllegalArgumentException", name := "<init>", desc := "(Ljava/lang/String;)V" } : Jvm.MethodName)) ∈ gtbl := gt7 (i := 69) rfl rfl
theorem q_1510 : (Cond.code ({ cls := "java/lang/IllegalArgumentException", name := "<init>", desc := "(Ljava/lang/String;)V" } : Jvm.MethodName) prog_25_method_2_code (2 : Nat) (Option.none : Option FieldType)) ∈ gtbl := gt7 (i := 70) rfl rfl
theorem q_1511 : (Cond.methodLink "java/lang/IllegalArgumentException" (7 : Nat) ({ cls := "java/lang/RuntimeException", name := "<init>", desc := "(Ljava/lang/String;)V" } : Jvm.MethodName)) ∈ gtbl := gt7 (i := 71) rfl rfl
theorem q_1512 : (Cond.lays "java/lang/IllegalArgumentException" "java/lang/Throwable" "depth" "I") ∈ gtbl := gt7 (i := 72) rfl rfl
theorem q_1514 : (Cond.methodLink "FlatPlanLaw" (506 : Nat) ({ cls := "FlatPlanLaw", name := "forms", desc := "(LFlatPlan;LFlatPlanLaw$Plan;)Z" } : Jvm.MethodName)) ∈ gtbl := gt7 (i := 74) rfl rfl
theorem q_1515 : (Cond.static ({ cls := "FlatPlanLaw", name := "forms", desc := "(LFlatPlan;LFlatPlanLaw$Plan;)Z" } : Jvm.MethodName)) ∈ gtbl := gt7 (i := 75) rfl rfl
theorem q_1516 : (Cond.code ({ cls := "FlatPlanLaw", name := "forms", desc := "(LFlatPlan;LFlatPlanLaw$Plan;)Z" } : Jvm.MethodName) method_10_code (12 : Nat) (Option.some FieldType.boolean)) ∈ gtbl := gt7 (i := 76) rfl rfl
theorem q_1517 : (Cond.methodLink "FlatPlanLaw" (218 : Nat) ({ cls := "FlatPlan", name := "pageOf", desc := "(II)I" } : Jvm.MethodName)) ∈ gtbl := gt7 (i := 77) rfl rfl
theorem q_1518 : (Cond.instanceMethod ({ cls := "FlatPlan", name := "pageOf", desc := "(II)I" } : Jvm.MethodName)) ∈ gtbl := gt7 (i := 78) rfl rfl
theorem q_1519 : (Cond.selects "FlatPlan" ({ cls := "FlatPlan", name := "pageOf", desc := "(II)I" } : Jvm.MethodName) ({ cls := "FlatPlan", name := "pageOf", desc := "(II)I" } : Jvm.MethodName)) ∈ gtbl := gt7 (i := 79) rfl rfl
theorem q_1520 : (Cond.code ({ cls := "FlatPlan", name := "pageOf", desc := "(II)I" } : Jvm.MethodName) prog_1_method_19_code (5 : Nat) (Option.some FieldType.int)) ∈ gtbl := gt7 (i := 80) rfl rfl
theorem q_1521 : (Cond.methodLink "FlatPlan" (223 : Nat) ({ cls := "FlatPlan", name := "needForm", desc := "(I)V" } : Jvm.MethodName)) ∈ gtbl := gt7 (i := 81) rfl rfl
theorem q_1523 : (Cond.instanceMethod ({ cls := "FlatPlan", name := "needForm", desc := "(I)V" } : Jvm.MethodName)) ∈ gtbl := gt7 (i := 83) rfl rfl
theorem q_1524 : (Cond.code ({ cls := "FlatPlan", name := "needForm", desc := "(I)V" } : Jvm.MethodName) prog_1_method_67_code (2 : Nat) (Option.none : Option FieldType)) ∈ gtbl := gt7 (i := 84) rfl rfl
theorem q_1526 : (Cond.methodLink "FlatPlanLaw" (225 : Nat) ({ cls := "FlatPlanLaw$Plan", name := "late", desc := "(I)I" } : Jvm.MethodName)) ∈ gtbl := gt7 (i := 86) rfl rfl
theorem q_1527 : (Cond.instanceMethod ({ cls := "FlatPlanLaw$Plan", name := "late", desc := "(I)I" } : Jvm.MethodName)) ∈ gtbl := gt7 (i := 87) rfl rfl
theorem q_1528 : (Cond.selects "FlatPlanLaw$Plan" ({ cls := "FlatPlanLaw$Plan", name := "late", desc := "(I)I" } : Jvm.MethodName) ({ cls := "FlatPlanLaw$Plan", name := "late", desc := "(I)I" } : Jvm.MethodName)) ∈ gtbl := gt7 (i := 88) rfl rfl
theorem q_1529 : (Cond.code ({ cls := "FlatPlanLaw$Plan", name := "late", desc := "(I)I" } : Jvm.MethodName) prog_14_method_18_code (5 : Nat) (Option.some FieldType.int)) ∈ gtbl := gt7 (i := 89) rfl rfl
theorem q_1530 : (Cond.methodLink "FlatPlanLaw$Plan" (79 : Nat) ({ cls := "FlatPlanLaw$Plan", name := "form", desc := "(I)I" } : Jvm.MethodName)) ∈ gtbl := gt7 (i := 90) rfl rfl
theorem q_1531 : (Cond.methodLink "FlatPlanLaw$Plan" (137 : Nat) ({ cls := "FlatPlanLaw$Plan", name := "touches", desc := "(LFlatPlanLaw$Item;I)Z" } : Jvm.MethodName)) ∈ gtbl := gt7 (i := 91) rfl rfl
theorem q_1532 : (Cond.instanceMethod ({ cls := "FlatPlanLaw$Plan", name := "touches", desc := "(LFlatPlanLaw$Item;I)Z" } : Jvm.MethodName)) ∈ gtbl := gt7 (i := 92) rfl rfl
theorem q_1533 : (Cond.selects "FlatPlanLaw$Plan" ({ cls := "FlatPlanLaw$Plan", name := "touches", desc := "(LFlatPlanLaw$Item;I)Z" } : Jvm.MethodName) ({ cls := "FlatPlanLaw$Plan", name := "touches", desc := "(LFlatPlanLaw$Item;I)Z" } : Jvm.MethodName)) ∈ gtbl := gt7 (i := 93) rfl rfl
theorem q_1534 : (Cond.code ({ cls := "FlatPlanLaw$Plan", name := "touches", desc := "(LFlatPlanLaw$Item;I)Z" } : Jvm.MethodName) prog_14_method_13_code (4 : Nat) (Option.some FieldType.boolean)) ∈ gtbl := gt7 (i := 94) rfl rfl
theorem q_1535 : (Cond.methodLink "FlatPlanLaw" (228 : Nat) ({ cls := "FlatPlanLaw$Plan", name := "hasColor", desc := "(I)Z" } : Jvm.MethodName)) ∈ gtbl := gt7 (i := 95) rfl rfl
theorem q_1536 : (Cond.instanceMethod ({ cls := "FlatPlanLaw$Plan", name := "hasColor", desc := "(I)Z" } : Jvm.MethodName)) ∈ gtbl := gt7 (i := 96) rfl rfl
theorem q_1537 : (Cond.selects "FlatPlanLaw$Plan" ({ cls := "FlatPlanLaw$Plan", name := "hasColor", desc := "(I)Z" } : Jvm.MethodName) ({ cls := "FlatPlanLaw$Plan", name := "hasColor", desc := "(I)Z" } : Jvm.MethodName)) ∈ gtbl := gt7 (i := 97) rfl rfl
theorem q_1538 : (Cond.code ({ cls := "FlatPlanLaw$Plan", name := "hasColor", desc := "(I)Z" } : Jvm.MethodName) prog_14_method_17_code (5 : Nat) (Option.some FieldType.boolean)) ∈ gtbl := gt7 (i := 98) rfl rfl
theorem q_1539 : (Cond.methodLink "FlatPlanLaw" (232 : Nat) ({ cls := "FlatPlan", name := "form", desc := "(II)I" } : Jvm.MethodName)) ∈ gtbl := gt7 (i := 99) rfl rfl
theorem q_1540 : (Cond.instanceMethod ({ cls := "FlatPlan", name := "form", desc := "(II)I" } : Jvm.MethodName)) ∈ gtbl := gt7 (i := 100) rfl rfl
theorem q_1541 : (Cond.selects "FlatPlan" ({ cls := "FlatPlan", name := "form", desc := "(II)I" } : Jvm.MethodName) ({ cls := "FlatPlan", name := "form", desc := "(II)I" } : Jvm.MethodName)) ∈ gtbl := gt7 (i := 101) rfl rfl
theorem q_1542 : (Cond.code ({ cls := "FlatPlan", name := "form", desc := "(II)I" } : Jvm.MethodName) prog_1_method_18_code (4 : Nat) (Option.some FieldType.int)) ∈ gtbl := gt7 (i := 102) rfl rfl
theorem q_1543 : (Cond.methodLink "FlatPlan" (232 : Nat) ({ cls := "FlatPlan$Plan", name := "leftOnForm", desc := "(I)I" } : Jvm.MethodName)) ∈ gtbl := gt7 (i := 103) rfl rfl
theorem q_1544 : (Cond.instanceMethod ({ cls := "FlatPlan$Plan", name := "leftOnForm", desc := "(I)I" } : Jvm.MethodName)) ∈ gtbl := gt7 (i := 104) rfl rfl
theorem q_1545 : (Cond.selects "FlatPlan$Plan" ({ cls := "FlatPlan$Plan", name := "leftOnForm", desc := "(I)I" } : Jvm.MethodName) ({ cls := "FlatPlan$Plan", name := "leftOnForm", desc := "(I)I" } : Jvm.MethodName)) ∈ gtbl := gt7 (i := 105) rfl rfl
theorem q_1546 : (Cond.code ({ cls := "FlatPlan$Plan", name := "leftOnForm", desc := "(I)I" } : Jvm.MethodName) prog_6_method_27_code (4 : Nat) (Option.some FieldType.int)) ∈ gtbl := gt7 (i := 106) rfl rfl
theorem q_1547 : (Cond.methodLink "FlatPlan" (235 : Nat) ({ cls := "FlatPlan$Plan", name := "adsOnForm", desc := "(I)I" } : Jvm.MethodName)) ∈ gtbl := gt7 (i := 107) rfl rfl
theorem q_1548 : (Cond.instanceMethod ({ cls := "FlatPlan$Plan", name := "adsOnForm", desc := "(I)I" } : Jvm.MethodName)) ∈ gtbl := gt7 (i := 108) rfl rfl
theorem q_1549 : (Cond.selects "FlatPlan$Plan" ({ cls := "FlatPlan$Plan", name := "adsOnForm", desc := "(I)I" } : Jvm.MethodName) ({ cls := "FlatPlan$Plan", name := "adsOnForm", desc := "(I)I" } : Jvm.MethodName)) ∈ gtbl := gt7 (i := 109) rfl rfl
theorem q_1550 : (Cond.code ({ cls := "FlatPlan$Plan", name := "adsOnForm", desc := "(I)I" } : Jvm.MethodName) prog_6_method_28_code (4 : Nat) (Option.some FieldType.int)) ∈ gtbl := gt7 (i := 110) rfl rfl
theorem q_1551 : (Cond.methodLink "FlatPlan$Plan" (173 : Nat) ({ cls := "FlatPlan$Plan", name := "formAt", desc := "(I)I" } : Jvm.MethodName)) ∈ gtbl := gt7 (i := 111) rfl rfl
theorem q_1552 : (Cond.instanceMethod ({ cls := "FlatPlan$Plan", name := "formAt", desc := "(I)I" } : Jvm.MethodName)) ∈ gtbl := gt7 (i := 112) rfl rfl
theorem q_1553 : (Cond.selects "FlatPlan$Plan" ({ cls := "FlatPlan$Plan", name := "formAt", desc := "(I)I" } : Jvm.MethodName) ({ cls := "FlatPlan$Plan", name := "formAt", desc := "(I)I" } : Jvm.MethodName)) ∈ gtbl := gt7 (i := 113) rfl rfl
theorem q_1554 : (Cond.code ({ cls := "FlatPlan$Plan", name := "formAt", desc := "(I)I" } : Jvm.MethodName) prog_6_method_7_code (2 : Nat) (Option.some FieldType.int)) ∈ gtbl := gt7 (i := 114) rfl rfl
theorem q_1555 : (Cond.methodLink "FlatPlan" (238 : Nat) ({ cls := "FlatPlan$Plan", name := "lateOnForm", desc := "(I)I" } : Jvm.MethodName)) ∈ gtbl := gt7 (i := 115) rfl rfl
theorem q_1556 : (Cond.instanceMethod ({ cls := "FlatPlan$Plan", name := "lateOnForm", desc := "(I)I" } : Jvm.MethodName)) ∈ gtbl := gt7 (i := 116) rfl rfl
theorem q_1557 : (Cond.selects "FlatPlan$Plan" ({ cls := "FlatPlan$Plan", name := "lateOnForm", desc := "(I)I" } : Jvm.MethodName) ({ cls := "FlatPlan$Plan", name := "lateOnForm", desc := "(I)I" } : Jvm.MethodName)) ∈ gtbl := gt7 (i := 117) rfl rfl
theorem q_1558 : (Cond.code ({ cls := "FlatPlan$Plan", name := "lateOnForm", desc := "(I)I" } : Jvm.MethodName) prog_6_method_29_code (4 : Nat) (Option.some FieldType.int)) ∈ gtbl := gt7 (i := 118) rfl rfl
theorem q_1559 : (Cond.methodLink "FlatPlan$Plan" (186 : Nat) ({ cls := "FlatPlan$Plan", name := "isLate", desc := "(I)Z" } : Jvm.MethodName)) ∈ gtbl := gt7 (i := 119) rfl rfl
theorem q_1560 : (Cond.methodLink "FlatPlan$Plan" (180 : Nat) ({ cls := "FlatPlan$Plan", name := "storyIsOn", desc := "(II)Z" } : Jvm.MethodName)) ∈ gtbl := gt7 (i := 120) rfl rfl
theorem q_1561 : (Cond.instanceMethod ({ cls := "FlatPlan$Plan", name := "storyIsOn", desc := "(II)Z" } : Jvm.MethodName)) ∈ gtbl := gt7 (i := 121) rfl rfl
theorem q_1562 : (Cond.selects "FlatPlan$Plan" ({ cls := "FlatPlan$Plan", name := "storyIsOn", desc := "(II)Z" } : Jvm.MethodName) ({ cls := "FlatPlan$Plan", name := "storyIsOn", desc := "(II)Z" } : Jvm.MethodName)) ∈ gtbl := gt7 (i := 122) rfl rfl
theorem q_1563 : (Cond.code ({ cls := "FlatPlan$Plan", name := "storyIsOn", desc := "(II)Z" } : Jvm.MethodName) prog_6_method_23_code (5 : Nat) (Option.some FieldType.boolean)) ∈ gtbl := gt7 (i := 123) rfl rfl
theorem q_1564 : (Cond.methodLink "FlatPlan" (241 : Nat) ({ cls := "FlatPlan$Plan", name := "hasColorItem", desc := "(I)Z" } : Jvm.MethodName)) ∈ gtbl := gt7 (i := 124) rfl rfl
theorem q_1565 : (Cond.instanceMethod ({ cls := "FlatPlan$Plan", name := "hasColorItem", desc := "(I)Z" } : Jvm.MethodName)) ∈ gtbl := gt7 (i := 125) rfl rfl
theorem q_1566 : (Cond.selects "FlatPlan$Plan" ({ cls := "FlatPlan$Plan", name := "hasColorItem", desc := "(I)Z" } : Jvm.MethodName) ({ cls := "FlatPlan$Plan", name := "hasColorItem", desc := "(I)Z" } : Jvm.MethodName)) ∈ gtbl := gt7 (i := 126) rfl rfl
theorem q_1567 : (Cond.code ({ cls := "FlatPlan$Plan", name := "hasColorItem", desc := "(I)Z" } : Jvm.MethodName) prog_6_method_30_code (3 : Nat) (Option.some FieldType.boolean)) ∈ gtbl := gt7 (i := 127) rfl rfl
theorem q_1568 : (Cond.methodLink "FlatPlanLaw" (234 : Nat) ({ cls := "FlatPlan", name := "revenueOf", desc := "(I)I" } : Jvm.MethodName)) ∈ gtbl := gt7 (i := 128) rfl rfl
theorem q_1569 : (Cond.instanceMethod ({ cls := "FlatPlan", name := "revenueOf", desc := "(I)I" } : Jvm.MethodName)) ∈ gtbl := gt7 (i := 129) rfl rfl
theorem q_1570 : (Cond.selects "FlatPlan" ({ cls := "FlatPlan", name := "revenueOf", desc := "(I)I" } : Jvm.MethodName) ({ cls := "FlatPlan", name := "revenueOf", desc := "(I)I" } : Jvm.MethodName)) ∈ gtbl := gt7 (i := 130) rfl rfl
theorem q_1571 : (Cond.code ({ cls := "FlatPlan", name := "revenueOf", desc := "(I)I" } : Jvm.MethodName) prog_1_method_52_code (5 : Nat) (Option.some FieldType.int)) ∈ gtbl := gt7 (i := 131) rfl rfl
theorem q_1572 : (Cond.methodLink "FlatPlan" (337 : Nat) ({ cls := "FlatPlan$Plan", name := "formAt", desc := "(I)I" } : Jvm.MethodName)) ∈ gtbl := gt7 (i := 132) rfl rfl
theorem q_1573 : (Cond.methodLink "FlatPlanLaw" (237 : Nat) ({ cls := "java/lang/Integer", name := "bitCount", desc := "(I)I" } : Jvm.MethodName)) ∈ gtbl := gt7 (i := 133) rfl rfl
theorem q_1574 : (Cond.static ({ cls := "java/lang/Integer", name := "bitCount", desc := "(I)I" } : Jvm.MethodName)) ∈ gtbl := gt7 (i := 134) rfl rfl
theorem q_1575 : (Cond.code ({ cls := "java/lang/Integer", name := "bitCount", desc := "(I)I" } : Jvm.MethodName) prog_27_method_49_code (1 : Nat) (Option.some FieldType.int)) ∈ gtbl := gt7 (i := 135) rfl rfl
theorem q_1576 : (Cond.constant "java/lang/Integer" (265 : Nat) (1431655765 : Int32)) ∈ gtbl := gt7 (i := 136) rfl rfl
theorem q_1577 : (Cond.constant "java/lang/Integer" (266 : Nat) (858993459 : Int32)) ∈ gtbl := gt7 (i := 137) rfl rfl
theorem q_1578 : (Cond.constant "java/lang/Integer" (267 : Nat) (252645135 : Int32)) ∈ gtbl := gt7 (i := 138) rfl rfl
theorem q_1579 : (Cond.methodLink "FlatPlanLaw" (240 : Nat) ({ cls := "FlatPlan", name := "bestColor", desc := "(I)I" } : Jvm.MethodName)) ∈ gtbl := gt7 (i := 139) rfl rfl
theorem q_1580 : (Cond.instanceMethod ({ cls := "FlatPlan", name := "bestColor", desc := "(I)I" } : Jvm.MethodName)) ∈ gtbl := gt7 (i := 140) rfl rfl
theorem q_1581 : (Cond.selects "FlatPlan" ({ cls := "FlatPlan", name := "bestColor", desc := "(I)I" } : Jvm.MethodName) ({ cls := "FlatPlan", name := "bestColor", desc := "(I)I" } : Jvm.MethodName)) ∈ gtbl := gt7 (i := 141) rfl rfl
theorem q_1582 : (Cond.code ({ cls := "FlatPlan", name := "bestColor", desc := "(I)I" } : Jvm.MethodName) prog_1_method_42_code (2 : Nat) (Option.some FieldType.int)) ∈ gtbl := gt7 (i := 142) rfl rfl
theorem q_1584 : (Cond.methodLink "FlatPlan" (306 : Nat) ({ cls := "FlatPlan$Searches", name := "roomiestForms", desc := "(I)I" } : Jvm.MethodName)) ∈ gtbl := gt7 (i := 144) rfl rfl
theorem q_1585 : (Cond.instanceMethod ({ cls := "FlatPlan$Searches", name := "roomiestForms", desc := "(I)I" } : Jvm.MethodName)) ∈ gtbl := gt7 (i := 145) rfl rfl
theorem q_1586 : (Cond.selects "FlatPlan$Searches" ({ cls := "FlatPlan$Searches", name := "roomiestForms", desc := "(I)I" } : Jvm.MethodName) ({ cls := "FlatPlan$Searches", name := "roomiestForms", desc := "(I)I" } : Jvm.MethodName)) ∈ gtbl := gt7 (i := 146) rfl rfl
theorem q_1587 : (Cond.code ({ cls := "FlatPlan$Searches", name := "roomiestForms", desc := "(I)I" } : Jvm.MethodName) prog_8_method_18_code (6 : Nat) (Option.some FieldType.int)) ∈ gtbl := gt7 (i := 147) rfl rfl
theorem q_1588 : (Cond.methodLink "FlatPlan$Searches" (159 : Nat) ({ cls := "java/lang/Integer", name := "bitCount", desc := "(I)I" } : Jvm.MethodName)) ∈ gtbl := gt7 (i := 148) rfl rfl
theorem q_1589 : (Cond.methodLink "FlatPlan$Searches" (164 : Nat) ({ cls := "FlatPlan$Searches", name := "leftOnSet", desc := "(I)I" } : Jvm.MethodName)) ∈ gtbl := gt7 (i := 149) rfl rfl
theorem q_1591 : (Cond.instanceMethod ({ cls := "FlatPlan$Searches", name := "leftOnSet", desc := "(I)I" } : Jvm.MethodName)) ∈ gtbl := gt7 (i := 151) rfl rfl
theorem q_1592 : (Cond.code ({ cls := "FlatPlan$Searches", name := "leftOnSet", desc := "(I)I" } : Jvm.MethodName) prog_8_method_19_code (4 : Nat) (Option.some FieldType.int)) ∈ gtbl := gt7 (i := 152) rfl rfl
theorem q_1593 : (Cond.methodLink "FlatPlan$Searches" (178 : Nat) ({ cls := "FlatPlan$Plan", name := "leftOnForm", desc := "(I)I" } : Jvm.MethodName)) ∈ gtbl := gt7 (i := 153) rfl rfl
theorem q_1594 : (Cond.methodLink "FlatPlanLaw" (247 : Nat) ({ cls := "java/lang/Math", name := "max", desc := "(II)I" } : Jvm.MethodName)) ∈ gtbl := gt7 (i := 154) rfl rfl
theorem q_1595 : (Cond.methodLink "FlatPlanLaw" (252 : Nat) ({ cls := "FlatPlanLaw$Plan", name := "pass", desc := "(I)I" } : Jvm.MethodName)) ∈ gtbl := gt7 (i := 155) rfl rfl
theorem q_1596 : (Cond.instanceMethod ({ cls := "FlatPlanLaw$Plan", name := "pass", desc := "(I)I" } : Jvm.MethodName)) ∈ gtbl := gt7 (i := 156) rfl rfl
theorem q_1597 : (Cond.selects "FlatPlanLaw$Plan" ({ cls := "FlatPlanLaw$Plan", name := "pass", desc := "(I)I" } : Jvm.MethodName) ({ cls := "FlatPlanLaw$Plan", name := "pass", desc := "(I)I" } : Jvm.MethodName)) ∈ gtbl := gt7 (i := 157) rfl rfl
theorem q_1598 : (Cond.code ({ cls := "FlatPlanLaw$Plan", name := "pass", desc := "(I)I" } : Jvm.MethodName) prog_14_method_20_code (5 : Nat) (Option.some FieldType.int)) ∈ gtbl := gt7 (i := 158) rfl rfl
theorem q_1599 : (Cond.methodLink "FlatPlanLaw$Plan" (156 : Nat) ({ cls := "FlatPlanLaw$Plan", name := "close", desc := "(I)V" } : Jvm.MethodName)) ∈ gtbl := gt7 (i := 159) rfl rfl
theorem q_1600 : (Cond.instanceMethod ({ cls := "FlatPlanLaw$Plan", name := "close", desc := "(I)V" } : Jvm.MethodName)) ∈ gtbl := gt7 (i := 160) rfl rfl
theorem q_1601 : (Cond.selects "FlatPlanLaw$Plan" ({ cls := "FlatPlanLaw$Plan", name := "close", desc := "(I)V" } : Jvm.MethodName) ({ cls := "FlatPlanLaw$Plan", name := "close", desc := "(I)V" } : Jvm.MethodName)) ∈ gtbl := gt7 (i := 161) rfl rfl
theorem q_1602 : (Cond.code ({ cls := "FlatPlanLaw$Plan", name := "close", desc := "(I)V" } : Jvm.MethodName) prog_14_method_19_code (8 : Nat) (Option.none : Option FieldType)) ∈ gtbl := gt7 (i := 162) rfl rfl
theorem q_1603 : (Cond.methodLink "FlatPlanLaw$Plan" (111 : Nat) ({ cls := "FlatPlanLaw$Plan", name := "pages", desc := "()I" } : Jvm.MethodName)) ∈ gtbl := gt7 (i := 163) rfl rfl
theorem q_1604 : (Cond.methodLink "FlatPlanLaw$Plan" (146 : Nat) ({ cls := "FlatPlanLaw$Plan", name := "on", desc := "(Ljava/util/ArrayList;I)Ljava/util/ArrayList;" } : Jvm.MethodName)) ∈ gtbl := gt7 (i := 164) rfl rfl
theorem q_1605 : (Cond.classLink "FlatPlanLaw$Plan" (97 : Nat) "java/lang/Integer") ∈ gtbl := gt7 (i := 165) rfl rfl
theorem q_1606 : (Cond.methodLink "FlatPlanLaw$Plan" (150 : Nat) ({ cls := "java/lang/Integer", name := "intValue", desc := "()I" } : Jvm.MethodName)) ∈ gtbl := gt7 (i := 166) rfl rfl
theorem q_1607 : (Cond.methodLink "FlatPlanLaw" (255 : Nat) ({ cls := "FlatPlan", name := "nextClosing", desc := "()I" } : Jvm.MethodName)) ∈ gtbl := gt7 (i := 167) rfl rfl
theorem q_1608 : (Cond.instanceMethod ({ cls := "FlatPlan", name := "nextClosing", desc := "()I" } : Jvm.MethodName)) ∈ gtbl := gt7 (i := 168) rfl rfl
theorem q_1609 : (Cond.selects "FlatPlan" ({ cls := "FlatPlan", name := "nextClosing", desc := "()I" } : Jvm.MethodName) ({ cls := "FlatPlan", name := "nextClosing", desc := "()I" } : Jvm.MethodName)) ∈ gtbl := gt7 (i := 169) rfl rfl
theorem q_1610 : (Cond.code ({ cls := "FlatPlan", name := "nextClosing", desc := "()I" } : Jvm.MethodName) prog_1_method_33_code (1 : Nat) (Option.some FieldType.int)) ∈ gtbl := gt7 (i := 170) rfl rfl
theorem q_1611 : (Cond.methodLink "FlatPlan" (277 : Nat) ({ cls := "FlatPlan$Plan", name := "soonestForm", desc := "()I" } : Jvm.MethodName)) ∈ gtbl := gt7 (i := 171) rfl rfl
theorem q_1612 : (Cond.instanceMethod ({ cls := "FlatPlan$Plan", name := "soonestForm", desc := "()I" } : Jvm.MethodName)) ∈ gtbl := gt7 (i := 172) rfl rfl
theorem q_1613 : (Cond.selects "FlatPlan$Plan" ({ cls := "FlatPlan$Plan", name := "soonestForm", desc := "()I" } : Jvm.MethodName) ({ cls := "FlatPlan$Plan", name := "soonestForm", desc := "()I" } : Jvm.MethodName)) ∈ gtbl := gt7 (i := 173) rfl rfl
theorem q_1614 : (Cond.code ({ cls := "FlatPlan$Plan", name := "soonestForm", desc := "()I" } : Jvm.MethodName) prog_6_method_31_code (4 : Nat) (Option.some FieldType.int)) ∈ gtbl := gt7 (i := 174) rfl rfl
theorem q_1615 : (Cond.methodLink "FlatPlanLaw" (258 : Nat) ({ cls := "FlatPlan", name := "endangered", desc := "()I" } : Jvm.MethodName)) ∈ gtbl := gt7 (i := 175) rfl rfl
theorem q_1616 : (Cond.instanceMethod ({ cls := "FlatPlan", name := "endangered", desc := "()I" } : Jvm.MethodName)) ∈ gtbl := gt7 (i := 176) rfl rfl
theorem q_1617 : (Cond.selects "FlatPlan" ({ cls := "FlatPlan", name := "endangered", desc := "()I" } : Jvm.MethodName) ({ cls := "FlatPlan", name := "endangered", desc := "()I" } : Jvm.MethodName)) ∈ gtbl := gt7 (i := 177) rfl rfl
theorem q_1618 : (Cond.code ({ cls := "FlatPlan", name := "endangered", desc := "()I" } : Jvm.MethodName) prog_1_method_55_code (6 : Nat) (Option.some FieldType.int)) ∈ gtbl := gt7 (i := 178) rfl rfl
theorem q_1619 : (Cond.methodLink "FlatPlanLaw" (509 : Nat) ({ cls := "FlatPlanLaw", name := "choices", desc := "(LFlatPlan;LFlatPlanLaw$Plan;I)Z" } : Jvm.MethodName)) ∈ gtbl := gt7 (i := 179) rfl rfl
theorem q_1620 : (Cond.static ({ cls := "FlatPlanLaw", name := "choices", desc := "(LFlatPlan;LFlatPlanLaw$Plan;I)Z" } : Jvm.MethodName)) ∈ gtbl := gt7 (i := 180) rfl rfl
theorem q_1621 : (Cond.code ({ cls := "FlatPlanLaw", name := "choices", desc := "(LFlatPlan;LFlatPlanLaw$Plan;I)Z" } : Jvm.MethodName) method_11_code (10 : Nat) (Option.some FieldType.boolean)) ∈ gtbl := gt7 (i := 181) rfl rfl
theorem q_1622 : (Cond.methodLink "FlatPlanLaw" (261 : Nat) ({ cls := "FlatPlanLaw$Plan", name := "reason", desc := "(LFlatPlanLaw$Item;I)I" } : Jvm.MethodName)) ∈ gtbl := gt7 (i := 182) rfl rfl
theorem q_1623 : (Cond.instanceMethod ({ cls := "FlatPlanLaw$Plan", name := "reason", desc := "(LFlatPlanLaw$Item;I)I" } : Jvm.MethodName)) ∈ gtbl := gt7 (i := 183) rfl rfl
theorem q_1624 : (Cond.selects "FlatPlanLaw$Plan" ({ cls := "FlatPlanLaw$Plan", name := "reason", desc := "(LFlatPlanLaw$Item;I)I" } : Jvm.MethodName) ({ cls := "FlatPlanLaw$Plan", name := "reason", desc := "(LFlatPlanLaw$Item;I)I" } : Jvm.MethodName)) ∈ gtbl := gt7 (i := 184) rfl rfl
theorem q_1625 : (Cond.code ({ cls := "FlatPlanLaw$Plan", name := "reason", desc := "(LFlatPlanLaw$Item;I)I" } : Jvm.MethodName) prog_14_method_11_code (5 : Nat) (Option.some FieldType.int)) ∈ gtbl := gt7 (i := 185) rfl rfl
theorem q_1626 : (Cond.methodLink "FlatPlanLaw$Plan" (114 : Nat) ({ cls := "FlatPlanLaw$Plan", name := "left", desc := "(I)I" } : Jvm.MethodName)) ∈ gtbl := gt7 (i := 186) rfl rfl
theorem q_1627 : (Cond.methodLink "FlatPlanLaw$Plan" (117 : Nat) ({ cls := "FlatPlanLaw$Plan", name := "isShut", desc := "(I)Z" } : Jvm.MethodName)) ∈ gtbl := gt7 (i := 187) rfl rfl
theorem q_1628 : (Cond.instanceMethod ({ cls := "FlatPlanLaw$Plan", name := "isShut", desc := "(I)Z" } : Jvm.MethodName)) ∈ gtbl := gt7 (i := 188) rfl rfl
theorem q_1629 : (Cond.selects "FlatPlanLaw$Plan" ({ cls := "FlatPlanLaw$Plan", name := "isShut", desc := "(I)Z" } : Jvm.MethodName) ({ cls := "FlatPlanLaw$Plan", name := "isShut", desc := "(I)Z" } : Jvm.MethodName)) ∈ gtbl := gt7 (i := 189) rfl rfl
theorem q_1630 : (Cond.code ({ cls := "FlatPlanLaw$Plan", name := "isShut", desc := "(I)Z" } : Jvm.MethodName) prog_14_method_5_code (2 : Nat) (Option.some FieldType.boolean)) ∈ gtbl := gt7 (i := 190) rfl rfl
theorem q_1631 : (Cond.methodLink "FlatPlanLaw$Plan" (124 : Nat) ({ cls := "FlatPlanLaw$Plan", name := "sided", desc := "(LFlatPlanLaw$Item;I)Z" } : Jvm.MethodName)) ∈ gtbl := gt7 (i := 191) rfl rfl
theorem q_1632 : (Cond.instanceMethod ({ cls := "FlatPlanLaw$Plan", name := "sided", desc := "(LFlatPlanLaw$Item;I)Z" } : Jvm.MethodName)) ∈ gtbl := gt7 (i := 192) rfl rfl
theorem q_1633 : (Cond.selects "FlatPlanLaw$Plan" ({ cls := "FlatPlanLaw$Plan", name := "sided", desc := "(LFlatPlanLaw$Item;I)Z" } : Jvm.MethodName) ({ cls := "FlatPlanLaw$Plan", name := "sided", desc := "(LFlatPlanLaw$Item;I)Z" } : Jvm.MethodName)) ∈ gtbl := gt7 (i := 193) rfl rfl
theorem q_1634 : (Cond.code ({ cls := "FlatPlanLaw$Plan", name := "sided", desc := "(LFlatPlanLaw$Item;I)Z" } : Jvm.MethodName) prog_14_method_9_code (3 : Nat) (Option.some FieldType.boolean)) ∈ gtbl := gt7 (i := 194) rfl rfl
theorem q_1635 : (Cond.methodLink "FlatPlanLaw$Plan" (128 : Nat) ({ cls := "FlatPlanLaw$Plan", name := "rival", desc := "(LFlatPlanLaw$Item;I)Z" } : Jvm.MethodName)) ∈ gtbl := gt7 (i := 195) rfl rfl
theorem q_1636 : (Cond.instanceMethod ({ cls := "FlatPlanLaw$Plan", name := "rival", desc := "(LFlatPlanLaw$Item;I)Z" } : Jvm.MethodName)) ∈ gtbl := gt7 (i := 196) rfl rfl
theorem q_1637 : (Cond.selects "FlatPlanLaw$Plan" ({ cls := "FlatPlanLaw$Plan", name := "rival", desc := "(LFlatPlanLaw$Item;I)Z" } : Jvm.MethodName) ({ cls := "FlatPlanLaw$Plan", name := "rival", desc := "(LFlatPlanLaw$Item;I)Z" } : Jvm.MethodName)) ∈ gtbl := gt7 (i := 197) rfl rfl
theorem q_1638 : (Cond.code ({ cls := "FlatPlanLaw$Plan", name := "rival", desc := "(LFlatPlanLaw$Item;I)Z" } : Jvm.MethodName) prog_14_method_10_code (5 : Nat) (Option.some FieldType.boolean)) ∈ gtbl := gt7 (i := 198) rfl rfl
theorem q_1639 : (Cond.methodLink "FlatPlanLaw" (265 : Nat) ({ cls := "FlatPlan", name := "reason", desc := "(II)I" } : Jvm.MethodName)) ∈ gtbl := gt7 (i := 199) rfl rfl
theorem q_1640 : (Cond.instanceMethod ({ cls := "FlatPlan", name := "reason", desc := "(II)I" } : Jvm.MethodName)) ∈ gtbl := gt7 (i := 200) rfl rfl
theorem q_1641 : (Cond.selects "FlatPlan" ({ cls := "FlatPlan", name := "reason", desc := "(II)I" } : Jvm.MethodName) ({ cls := "FlatPlan", name := "reason", desc := "(II)I" } : Jvm.MethodName)) ∈ gtbl := gt7 (i := 201) rfl rfl
theorem q_1642 : (Cond.code ({ cls := "FlatPlan", name := "reason", desc := "(II)I" } : Jvm.MethodName) prog_1_method_20_code (3 : Nat) (Option.some FieldType.int)) ∈ gtbl := gt7 (i := 202) rfl rfl
theorem q_1643 : (Cond.methodLink "FlatPlan" (244 : Nat) ({ cls := "FlatPlan$Plan", name := "adReason", desc := "(II)I" } : Jvm.MethodName)) ∈ gtbl := gt7 (i := 203) rfl rfl
theorem q_1644 : (Cond.methodLink "FlatPlanLaw" (267 : Nat) ({ cls := "FlatPlan", name := "choices", desc := "(I)I" } : Jvm.MethodName)) ∈ gtbl := gt7 (i := 204) rfl rfl
theorem q_1645 : (Cond.instanceMethod ({ cls := "FlatPlan", name := "choices", desc := "(I)I" } : Jvm.MethodName)) ∈ gtbl := gt7 (i := 205) rfl rfl
theorem q_1646 : (Cond.selects "FlatPlan" ({ cls := "FlatPlan", name := "choices", desc := "(I)I" } : Jvm.MethodName) ({ cls := "FlatPlan", name := "choices", desc := "(I)I" } : Jvm.MethodName)) ∈ gtbl := gt7 (i := 206) rfl rfl
theorem q_1647 : (Cond.code ({ cls := "FlatPlan", name := "choices", desc := "(I)I" } : Jvm.MethodName) prog_1_method_36_code (2 : Nat) (Option.some FieldType.int)) ∈ gtbl := gt7 (i := 207) rfl rfl
theorem q_1648 : (Cond.methodLink "FlatPlan" (286 : Nat) ({ cls := "FlatPlan$Searches", name := "pagesFor", desc := "(I)I" } : Jvm.MethodName)) ∈ gtbl := gt7 (i := 208) rfl rfl
theorem q_1649 : (Cond.methodLink "FlatPlanLaw" (270 : Nat) ({ cls := "FlatPlan", name := "storyReason", desc := "(II)I" } : Jvm.MethodName)) ∈ gtbl := gt7 (i := 209) rfl rfl
theorem q_1650 : (Cond.instanceMethod ({ cls := "FlatPlan", name := "storyReason", desc := "(II)I" } : Jvm.MethodName)) ∈ gtbl := gt7 (i := 210) rfl rfl
theorem q_1651 : (Cond.selects "FlatPlan" ({ cls := "FlatPlan", name := "storyReason", desc := "(II)I" } : Jvm.MethodName) ({ cls := "FlatPlan", name := "storyReason", desc := "(II)I" } : Jvm.MethodName)) ∈ gtbl := gt7 (i := 211) rfl rfl
theorem q_1652 : (Cond.code ({ cls := "FlatPlan", name := "storyReason", desc := "(II)I" } : Jvm.MethodName) prog_1_method_21_code (3 : Nat) (Option.some FieldType.int)) ∈ gtbl := gt7 (i := 212) rfl rfl
theorem q_1653 : (Cond.methodLink "FlatPlan" (248 : Nat) ({ cls := "FlatPlan$Plan", name := "layReason", desc := "(II)I" } : Jvm.MethodName)) ∈ gtbl := gt7 (i := 213) rfl rfl
theorem q_1654 : (Cond.methodLink "FlatPlanLaw" (273 : Nat) ({ cls := "FlatPlanLaw$Plan", name := "storyReason", desc := "(LFlatPlanLaw$Item;I)I" } : Jvm.MethodName)) ∈ gtbl := gt7 (i := 214) rfl rfl
theorem q_1655 : (Cond.instanceMethod ({ cls := "FlatPlanLaw$Plan", name := "storyReason", desc := "(LFlatPlanLaw$Item;I)I" } : Jvm.MethodName)) ∈ gtbl := gt7 (i := 215) rfl rfl
theorem q_1656 : (Cond.selects "FlatPlanLaw$Plan" ({ cls := "FlatPlanLaw$Plan", name := "storyReason", desc := "(LFlatPlanLaw$Item;I)I" } : Jvm.MethodName) ({ cls := "FlatPlanLaw$Plan", name := "storyReason", desc := "(LFlatPlanLaw$Item;I)I" } : Jvm.MethodName)) ∈ gtbl := gt7 (i := 216) rfl rfl
theorem q_1657 : (Cond.code ({ cls := "FlatPlanLaw$Plan", name := "storyReason", desc := "(LFlatPlanLaw$Item;I)I" } : Jvm.MethodName) prog_14_method_12_code (6 : Nat) (Option.some FieldType.int)) ∈ gtbl := gt7 (i := 217) rfl rfl
theorem q_1658 : (Cond.methodLink "FlatPlanLaw$Plan" (131 : Nat) ({ cls := "java/lang/Math", name := "min", desc := "(II)I" } : Jvm.MethodName)) ∈ gtbl := gt7 (i := 218) rfl rfl
theorem q_1659 : (Cond.methodLink "FlatPlanLaw" (278 : Nat) ({ cls := "FlatPlanLaw$Plan", name := "joins", desc := "(I[I[Z)Z" } : Jvm.MethodName)) ∈ gtbl := gt7 (i := 219) rfl rfl
theorem q_1660 : (Cond.instanceMethod ({ cls := "FlatPlanLaw$Plan", name := "joins", desc := "(I[I[Z)Z" } : Jvm.MethodName)) ∈ gtbl := gt7 (i := 220) rfl rfl
theorem q_1661 : (Cond.selects "FlatPlanLaw$Plan" ({ cls := "FlatPlanLaw$Plan", name := "joins", desc := "(I[I[Z)Z" } : Jvm.MethodName) ({ cls := "FlatPlanLaw$Plan", name := "joins", desc := "(I[I[Z)Z" } : Jvm.MethodName)) ∈ gtbl := gt7 (i := 221) rfl rfl
theorem q_1662 : (Cond.code ({ cls := "FlatPlanLaw$Plan", name := "joins", desc := "(I[I[Z)Z" } : Jvm.MethodName) prog_14_method_24_code (6 : Nat) (Option.some FieldType.boolean)) ∈ gtbl := gt7 (i := 222) rfl rfl
theorem q_1663 : (Cond.methodLink "FlatPlanLaw$Plan" (164 : Nat) ({ cls := "FlatPlanLaw$Plan", name := "reason", desc := "(LFlatPlanLaw$Item;I)I" } : Jvm.MethodName)) ∈ gtbl := gt7 (i := 223) rfl rfl
theorem q_1664 : (Cond.methodLink "FlatPlanLaw$Plan" (168 : Nat) ({ cls := "FlatPlanLaw$Plan", name := "joins", desc := "(I[I[Z)Z" } : Jvm.MethodName)) ∈ gtbl := gt7 (i := 224) rfl rfl
theorem q_1665 : (Cond.methodLink "FlatPlanLaw" (285 : Nat) ({ cls := "java/util/ArrayList", name := "isEmpty", desc := "()Z" } : Jvm.MethodName)) ∈ gtbl := gt7 (i := 225) rfl rfl
theorem q_1666 : (Cond.instanceMethod ({ cls := "java/util/ArrayList", name := "isEmpty", desc := "()Z" } : Jvm.MethodName)) ∈ gtbl := gt7 (i := 226) rfl rfl
theorem q_1667 : (Cond.selects "java/util/ArrayList" ({ cls := "java/util/ArrayList", name := "isEmpty", desc := "()Z" } : Jvm.MethodName) ({ cls := "java/util/ArrayList", name := "isEmpty", desc := "()Z" } : Jvm.MethodName)) ∈ gtbl := gt7 (i := 227) rfl rfl
theorem q_1668 : (Cond.code ({ cls := "java/util/ArrayList", name := "isEmpty", desc := "()Z" } : Jvm.MethodName) prog_43_method_9_code (1 : Nat) (Option.some FieldType.boolean)) ∈ gtbl := gt7 (i := 228) rfl rfl
theorem q_1669 : (Cond.methodLink "FlatPlanLaw" (288 : Nat) ({ cls := "FlatPlanLaw", name := "evictions", desc := "(LFlatPlan;LFlatPlanLaw$Plan;I)Z" } : Jvm.MethodName)) ∈ gtbl := gt7 (i := 229) rfl rfl
theorem q_1670 : (Cond.static ({ cls := "FlatPlanLaw", name := "evictions", desc := "(LFlatPlan;LFlatPlanLaw$Plan;I)Z" } : Jvm.MethodName)) ∈ gtbl := gt7 (i := 230) rfl rfl
theorem q_1671 : (Cond.code ({ cls := "FlatPlanLaw", name := "evictions", desc := "(LFlatPlan;LFlatPlanLaw$Plan;I)Z" } : Jvm.MethodName) method_12_code (10 : Nat) (Option.some FieldType.boolean)) ∈ gtbl := gt7 (i := 231) rfl rfl
theorem q_1672 : (Cond.methodLink "FlatPlanLaw" (292 : Nat) ({ cls := "FlatPlanLaw$Plan", name := "eviction", desc := "(LFlatPlanLaw$Item;I)I" } : Jvm.MethodName)) ∈ gtbl := gt7 (i := 232) rfl rfl
theorem q_1673 : (Cond.instanceMethod ({ cls := "FlatPlanLaw$Plan", name := "eviction", desc := "(LFlatPlanLaw$Item;I)I" } : Jvm.MethodName)) ∈ gtbl := gt7 (i := 233) rfl rfl
theorem q_1674 : (Cond.selects "FlatPlanLaw$Plan" ({ cls := "FlatPlanLaw$Plan", name := "eviction", desc := "(LFlatPlanLaw$Item;I)I" } : Jvm.MethodName) ({ cls := "FlatPlanLaw$Plan", name := "eviction", desc := "(LFlatPlanLaw$Item;I)I" } : Jvm.MethodName)) ∈ gtbl := gt7 (i := 234) rfl rfl
theorem q_1675 : (Cond.code ({ cls := "FlatPlanLaw$Plan", name := "eviction", desc := "(LFlatPlanLaw$Item;I)I" } : Jvm.MethodName) prog_14_method_23_code (9 : Nat) (Option.some FieldType.int)) ∈ gtbl := gt7 (i := 235) rfl rfl
theorem q_1676 : (Cond.methodLink "FlatPlanLaw" (295 : Nat) ({ cls := "FlatPlan", name := "eviction", desc := "(II)I" } : Jvm.MethodName)) ∈ gtbl := gt7 (i := 236) rfl rfl
theorem q_1677 : (Cond.instanceMethod ({ cls := "FlatPlan", name := "eviction", desc := "(II)I" } : Jvm.MethodName)) ∈ gtbl := gt7 (i := 237) rfl rfl
theorem q_1678 : (Cond.selects "FlatPlan" ({ cls := "FlatPlan", name := "eviction", desc := "(II)I" } : Jvm.MethodName) ({ cls := "FlatPlan", name := "eviction", desc := "(II)I" } : Jvm.MethodName)) ∈ gtbl := gt7 (i := 238) rfl rfl
theorem q_1679 : (Cond.code ({ cls := "FlatPlan", name := "eviction", desc := "(II)I" } : Jvm.MethodName) prog_1_method_39_code (3 : Nat) (Option.some FieldType.int)) ∈ gtbl := gt7 (i := 239) rfl rfl
theorem q_1680 : (Cond.methodLink "FlatPlan" (295 : Nat) ({ cls := "FlatPlan$Searches", name := "evictedPrices", desc := "(II)I" } : Jvm.MethodName)) ∈ gtbl := gt8 (i := 0) rfl rfl
theorem q_1681 : (Cond.instanceMethod ({ cls := "FlatPlan$Searches", name := "evictedPrices", desc := "(II)I" } : Jvm.MethodName)) ∈ gtbl := gt8 (i := 1) rfl rfl
theorem q_1682 : (Cond.selects "FlatPlan$Searches" ({ cls := "FlatPlan$Searches", name := "evictedPrices", desc := "(II)I" } : Jvm.MethodName) ({ cls := "FlatPlan$Searches", name := "evictedPrices", desc := "(II)I" } : Jvm.MethodName)) ∈ gtbl := gt8 (i := 2) rfl rfl
theorem q_1683 : (Cond.code ({ cls := "FlatPlan$Searches", name := "evictedPrices", desc := "(II)I" } : Jvm.MethodName) prog_8_method_9_code (5 : Nat) (Option.some FieldType.int)) ∈ gtbl := gt8 (i := 3) rfl rfl
theorem q_1684 : (Cond.methodLink "FlatPlan$Searches" (112 : Nat) ({ cls := "FlatPlan$Plan", name := "isUnfit", desc := "(II)Z" } : Jvm.MethodName)) ∈ gtbl := gt8 (i := 4) rfl rfl
theorem q_1685 : (Cond.instanceMethod ({ cls := "FlatPlan$Plan", name := "isUnfit", desc := "(II)Z" } : Jvm.MethodName)) ∈ gtbl := gt8 (i := 5) rfl rfl
theorem q_1686 : (Cond.selects "FlatPlan$Plan" ({ cls := "FlatPlan$Plan", name := "isUnfit", desc := "(II)Z" } : Jvm.MethodName) ({ cls := "FlatPlan$Plan", name := "isUnfit", desc := "(II)Z" } : Jvm.MethodName)) ∈ gtbl := gt8 (i := 6) rfl rfl
theorem q_1687 : (Cond.code ({ cls := "FlatPlan$Plan", name := "isUnfit", desc := "(II)Z" } : Jvm.MethodName) prog_6_method_11_code (3 : Nat) (Option.some FieldType.boolean)) ∈ gtbl := gt8 (i := 7) rfl rfl
theorem q_1688 : (Cond.methodLink "FlatPlan$Searches" (118 : Nat) ({ cls := "FlatPlan$Searches", name := "rivalPricesBeside", desc := "(II)I" } : Jvm.MethodName)) ∈ gtbl := gt8 (i := 8) rfl rfl
theorem q_1690 : (Cond.instanceMethod ({ cls := "FlatPlan$Searches", name := "rivalPricesBeside", desc := "(II)I" } : Jvm.MethodName)) ∈ gtbl := gt8 (i := 10) rfl rfl
theorem q_1691 : (Cond.code ({ cls := "FlatPlan$Searches", name := "rivalPricesBeside", desc := "(II)I" } : Jvm.MethodName) prog_8_method_10_code (6 : Nat) (Option.some FieldType.int)) ∈ gtbl := gt8 (i := 11) rfl rfl
theorem q_1692 : (Cond.methodLink "FlatPlan$Searches" (124 : Nat) ({ cls := "FlatPlan$Ads", name := "areRivals", desc := "(II)Z" } : Jvm.MethodName)) ∈ gtbl := gt8 (i := 12) rfl rfl
theorem q_1693 : (Cond.instanceMethod ({ cls := "FlatPlan$Ads", name := "areRivals", desc := "(II)Z" } : Jvm.MethodName)) ∈ gtbl := gt8 (i := 13) rfl rfl
theorem q_1694 : (Cond.selects "FlatPlan$Ads" ({ cls := "FlatPlan$Ads", name := "areRivals", desc := "(II)Z" } : Jvm.MethodName) ({ cls := "FlatPlan$Ads", name := "areRivals", desc := "(II)Z" } : Jvm.MethodName)) ∈ gtbl := gt8 (i := 14) rfl rfl
theorem q_1695 : (Cond.code ({ cls := "FlatPlan$Ads", name := "areRivals", desc := "(II)Z" } : Jvm.MethodName) prog_2_method_3_code (3 : Nat) (Option.some FieldType.boolean)) ∈ gtbl := gt8 (i := 15) rfl rfl
theorem q_1696 : (Cond.methodLink "FlatPlan$Searches" (127 : Nat) ({ cls := "FlatPlan$Plan", name := "isPrinted", desc := "(I)Z" } : Jvm.MethodName)) ∈ gtbl := gt8 (i := 16) rfl rfl
theorem q_1697 : (Cond.methodLink "FlatPlan$Searches" (121 : Nat) ({ cls := "FlatPlan$Searches", name := "pricesForRoom", desc := "(II)I" } : Jvm.MethodName)) ∈ gtbl := gt8 (i := 17) rfl rfl
theorem q_1699 : (Cond.instanceMethod ({ cls := "FlatPlan$Searches", name := "pricesForRoom", desc := "(II)I" } : Jvm.MethodName)) ∈ gtbl := gt8 (i := 19) rfl rfl
theorem q_1700 : (Cond.code ({ cls := "FlatPlan$Searches", name := "pricesForRoom", desc := "(II)I" } : Jvm.MethodName) prog_8_method_11_code (7 : Nat) (Option.some FieldType.int)) ∈ gtbl := gt8 (i := 20) rfl rfl
theorem q_1701 : (Cond.methodLink "FlatPlan$Searches" (130 : Nat) ({ cls := "FlatPlan$Searches", name := "removedPrices", desc := "(IIII)I" } : Jvm.MethodName)) ∈ gtbl := gt8 (i := 21) rfl rfl
theorem q_1703 : (Cond.instanceMethod ({ cls := "FlatPlan$Searches", name := "removedPrices", desc := "(IIII)I" } : Jvm.MethodName)) ∈ gtbl := gt8 (i := 23) rfl rfl
theorem q_1704 : (Cond.code ({ cls := "FlatPlan$Searches", name := "removedPrices", desc := "(IIII)I" } : Jvm.MethodName) prog_8_method_12_code (8 : Nat) (Option.some FieldType.int)) ∈ gtbl := gt8 (i := 24) rfl rfl
theorem q_1705 : (Cond.methodLink "FlatPlan$Searches" (134 : Nat) ({ cls := "FlatPlan$Plan", name := "roomFor", desc := "(II)I" } : Jvm.MethodName)) ∈ gtbl := gt8 (i := 25) rfl rfl
theorem q_1706 : (Cond.methodLink "FlatPlanLaw" (297 : Nat) ({ cls := "FlatPlan", name := "cheapestPage", desc := "(I)I" } : Jvm.MethodName)) ∈ gtbl := gt8 (i := 26) rfl rfl
theorem q_1707 : (Cond.instanceMethod ({ cls := "FlatPlan", name := "cheapestPage", desc := "(I)I" } : Jvm.MethodName)) ∈ gtbl := gt8 (i := 27) rfl rfl
theorem q_1708 : (Cond.selects "FlatPlan" ({ cls := "FlatPlan", name := "cheapestPage", desc := "(I)I" } : Jvm.MethodName) ({ cls := "FlatPlan", name := "cheapestPage", desc := "(I)I" } : Jvm.MethodName)) ∈ gtbl := gt8 (i := 28) rfl rfl
theorem q_1709 : (Cond.code ({ cls := "FlatPlan", name := "cheapestPage", desc := "(I)I" } : Jvm.MethodName) prog_1_method_40_code (2 : Nat) (Option.some FieldType.int)) ∈ gtbl := gt8 (i := 29) rfl rfl
theorem q_1710 : (Cond.methodLink "FlatPlan" (298 : Nat) ({ cls := "FlatPlan$Searches", name := "cheapestFor", desc := "(I)I" } : Jvm.MethodName)) ∈ gtbl := gt8 (i := 30) rfl rfl
theorem q_1711 : (Cond.instanceMethod ({ cls := "FlatPlan$Searches", name := "cheapestFor", desc := "(I)I" } : Jvm.MethodName)) ∈ gtbl := gt8 (i := 31) rfl rfl
theorem q_1712 : (Cond.selects "FlatPlan$Searches" ({ cls := "FlatPlan$Searches", name := "cheapestFor", desc := "(I)I" } : Jvm.MethodName) ({ cls := "FlatPlan$Searches", name := "cheapestFor", desc := "(I)I" } : Jvm.MethodName)) ∈ gtbl := gt8 (i := 32) rfl rfl
theorem q_1713 : (Cond.code ({ cls := "FlatPlan$Searches", name := "cheapestFor", desc := "(I)I" } : Jvm.MethodName) prog_8_method_13_code (6 : Nat) (Option.some FieldType.int)) ∈ gtbl := gt8 (i := 33) rfl rfl
theorem q_1714 : (Cond.methodLink "FlatPlan$Searches" (137 : Nat) ({ cls := "FlatPlan$Searches", name := "evictedPrices", desc := "(II)I" } : Jvm.MethodName)) ∈ gtbl := gt8 (i := 34) rfl rfl
theorem q_1715 : (Cond.methodLink "FlatPlanLaw" (300 : Nat) ({ cls := "FlatPlan", name := "firstPage", desc := "(II)I" } : Jvm.MethodName)) ∈ gtbl := gt8 (i := 35) rfl rfl
theorem q_1716 : (Cond.instanceMethod ({ cls := "FlatPlan", name := "firstPage", desc := "(II)I" } : Jvm.MethodName)) ∈ gtbl := gt8 (i := 36) rfl rfl
theorem q_1717 : (Cond.selects "FlatPlan" ({ cls := "FlatPlan", name := "firstPage", desc := "(II)I" } : Jvm.MethodName) ({ cls := "FlatPlan", name := "firstPage", desc := "(II)I" } : Jvm.MethodName)) ∈ gtbl := gt8 (i := 37) rfl rfl
theorem q_1718 : (Cond.code ({ cls := "FlatPlan", name := "firstPage", desc := "(II)I" } : Jvm.MethodName) prog_1_method_37_code (3 : Nat) (Option.some FieldType.int)) ∈ gtbl := gt8 (i := 38) rfl rfl
theorem q_1719 : (Cond.methodLink "FlatPlan" (289 : Nat) ({ cls := "FlatPlan$Plan", name := "firstFor", desc := "(II)I" } : Jvm.MethodName)) ∈ gtbl := gt8 (i := 39) rfl rfl
theorem q_1720 : (Cond.instanceMethod ({ cls := "FlatPlan$Plan", name := "firstFor", desc := "(II)I" } : Jvm.MethodName)) ∈ gtbl := gt8 (i := 40) rfl rfl
theorem q_1721 : (Cond.selects "FlatPlan$Plan" ({ cls := "FlatPlan$Plan", name := "firstFor", desc := "(II)I" } : Jvm.MethodName) ({ cls := "FlatPlan$Plan", name := "firstFor", desc := "(II)I" } : Jvm.MethodName)) ∈ gtbl := gt8 (i := 41) rfl rfl
theorem q_1722 : (Cond.code ({ cls := "FlatPlan$Plan", name := "firstFor", desc := "(II)I" } : Jvm.MethodName) prog_6_method_35_code (4 : Nat) (Option.some FieldType.int)) ∈ gtbl := gt8 (i := 42) rfl rfl
theorem q_1723 : (Cond.methodLink "FlatPlan$Plan" (207 : Nat) ({ cls := "java/lang/Math", name := "max", desc := "(II)I" } : Jvm.MethodName)) ∈ gtbl := gt8 (i := 43) rfl rfl
theorem q_1724 : (Cond.methodLink "FlatPlan$Plan" (210 : Nat) ({ cls := "FlatPlan$Plan", name := "adReason", desc := "(II)I" } : Jvm.MethodName)) ∈ gtbl := gt8 (i := 44) rfl rfl
theorem q_1725 : (Cond.methodLink "FlatPlanLaw" (511 : Nat) ({ cls := "FlatPlanLaw", name := "groups", desc := "(LFlatPlan;LFlatPlanLaw$Plan;I)Z" } : Jvm.MethodName)) ∈ gtbl := gt8 (i := 45) rfl rfl
theorem q_1726 : (Cond.static ({ cls := "FlatPlanLaw", name := "groups", desc := "(LFlatPlan;LFlatPlanLaw$Plan;I)Z" } : Jvm.MethodName)) ∈ gtbl := gt8 (i := 46) rfl rfl
theorem q_1727 : (Cond.code ({ cls := "FlatPlanLaw", name := "groups", desc := "(LFlatPlan;LFlatPlanLaw$Plan;I)Z" } : Jvm.MethodName) method_13_code (11 : Nat) (Option.some FieldType.boolean)) ∈ gtbl := gt8 (i := 47) rfl rfl
theorem q_1728 : (Cond.methodLink "FlatPlanLaw" (303 : Nat) ({ cls := "java/lang/Math", name := "abs", desc := "(I)I" } : Jvm.MethodName)) ∈ gtbl := gt8 (i := 48) rfl rfl
theorem q_1729 : (Cond.static ({ cls := "java/lang/Math", name := "abs", desc := "(I)I" } : Jvm.MethodName)) ∈ gtbl := gt8 (i := 49) rfl rfl
theorem q_1730 : (Cond.code ({ cls := "java/lang/Math", name := "abs", desc := "(I)I" } : Jvm.MethodName) prog_30_method_59_code (1 : Nat) (Option.some FieldType.int)) ∈ gtbl := gt8 (i := 50) rfl rfl
theorem q_1731 : (Cond.methodLink "FlatPlanLaw" (306 : Nat) ({ cls := "FlatPlan", name := "groupOn", desc := "(II)I" } : Jvm.MethodName)) ∈ gtbl := gt8 (i := 51) rfl rfl
theorem q_1732 : (Cond.instanceMethod ({ cls := "FlatPlan", name := "groupOn", desc := "(II)I" } : Jvm.MethodName)) ∈ gtbl := gt8 (i := 52) rfl rfl
theorem q_1733 : (Cond.selects "FlatPlan" ({ cls := "FlatPlan", name := "groupOn", desc := "(II)I" } : Jvm.MethodName) ({ cls := "FlatPlan", name := "groupOn", desc := "(II)I" } : Jvm.MethodName)) ∈ gtbl := gt8 (i := 53) rfl rfl
theorem q_1734 : (Cond.code ({ cls := "FlatPlan", name := "groupOn", desc := "(II)I" } : Jvm.MethodName) prog_1_method_49_code (3 : Nat) (Option.some FieldType.int)) ∈ gtbl := gt8 (i := 54) rfl rfl
theorem q_1735 : (Cond.methodLink "FlatPlan" (329 : Nat) ({ cls := "FlatPlan", name := "needGroup", desc := "(I)V" } : Jvm.MethodName)) ∈ gtbl := gt8 (i := 55) rfl rfl
theorem q_1736 : (Cond.static ({ cls := "FlatPlan", name := "needGroup", desc := "(I)V" } : Jvm.MethodName)) ∈ gtbl := gt8 (i := 56) rfl rfl
theorem q_1737 : (Cond.code ({ cls := "FlatPlan", name := "needGroup", desc := "(I)V" } : Jvm.MethodName) prog_1_method_68_code (1 : Nat) (Option.none : Option FieldType)) ∈ gtbl := gt8 (i := 57) rfl rfl
theorem q_1740 : (Cond.methodLink "FlatPlanLaw" (309 : Nat) ({ cls := "FlatPlan", name := "spreadsOf", desc := "(I)I" } : Jvm.MethodName)) ∈ gtbl := gt8 (i := 60) rfl rfl
theorem q_1741 : (Cond.instanceMethod ({ cls := "FlatPlan", name := "spreadsOf", desc := "(I)I" } : Jvm.MethodName)) ∈ gtbl := gt8 (i := 61) rfl rfl
theorem q_1742 : (Cond.selects "FlatPlan" ({ cls := "FlatPlan", name := "spreadsOf", desc := "(I)I" } : Jvm.MethodName) ({ cls := "FlatPlan", name := "spreadsOf", desc := "(I)I" } : Jvm.MethodName)) ∈ gtbl := gt8 (i := 62) rfl rfl
theorem q_1743 : (Cond.code ({ cls := "FlatPlan", name := "spreadsOf", desc := "(I)I" } : Jvm.MethodName) prog_1_method_50_code (4 : Nat) (Option.some FieldType.int)) ∈ gtbl := gt8 (i := 63) rfl rfl
theorem q_1744 : (Cond.methodLink "FlatPlanLaw" (312 : Nat) ({ cls := "FlatPlan", name := "revenueOfGroup", desc := "(I)I" } : Jvm.MethodName)) ∈ gtbl := gt8 (i := 64) rfl rfl
theorem q_1745 : (Cond.instanceMethod ({ cls := "FlatPlan", name := "revenueOfGroup", desc := "(I)I" } : Jvm.MethodName)) ∈ gtbl := gt8 (i := 65) rfl rfl
theorem q_1746 : (Cond.selects "FlatPlan" ({ cls := "FlatPlan", name := "revenueOfGroup", desc := "(I)I" } : Jvm.MethodName) ({ cls := "FlatPlan", name := "revenueOfGroup", desc := "(I)I" } : Jvm.MethodName)) ∈ gtbl := gt8 (i := 66) rfl rfl
theorem q_1747 : (Cond.code ({ cls := "FlatPlan", name := "revenueOfGroup", desc := "(I)I" } : Jvm.MethodName) prog_1_method_53_code (5 : Nat) (Option.some FieldType.int)) ∈ gtbl := gt8 (i := 67) rfl rfl
theorem q_1748 : (Cond.methodLink "FlatPlanLaw" (315 : Nat) ({ cls := "FlatPlan", name := "nearRivals", desc := "()I" } : Jvm.MethodName)) ∈ gtbl := gt8 (i := 68) rfl rfl
theorem q_1749 : (Cond.instanceMethod ({ cls := "FlatPlan", name := "nearRivals", desc := "()I" } : Jvm.MethodName)) ∈ gtbl := gt8 (i := 69) rfl rfl
theorem q_1750 : (Cond.selects "FlatPlan" ({ cls := "FlatPlan", name := "nearRivals", desc := "()I" } : Jvm.MethodName) ({ cls := "FlatPlan", name := "nearRivals", desc := "()I" } : Jvm.MethodName)) ∈ gtbl := gt8 (i := 70) rfl rfl
theorem q_1751 : (Cond.code ({ cls := "FlatPlan", name := "nearRivals", desc := "()I" } : Jvm.MethodName) prog_1_method_48_code (5 : Nat) (Option.some FieldType.int)) ∈ gtbl := gt8 (i := 71) rfl rfl
theorem q_1752 : (Cond.methodLink "FlatPlan" (320 : Nat) ({ cls := "FlatPlan$Ads", name := "areRivals", desc := "(II)Z" } : Jvm.MethodName)) ∈ gtbl := gt8 (i := 72) rfl rfl
theorem q_1753 : (Cond.methodLink "FlatPlan" (324 : Nat) ({ cls := "java/lang/Math", name := "abs", desc := "(I)I" } : Jvm.MethodName)) ∈ gtbl := gt8 (i := 73) rfl rfl
theorem q_1754 : (Cond.methodLink "FlatPlanLaw" (318 : Nat) ({ cls := "FlatPlanLaw", name := "items", desc := "(LFlatPlan;LFlatPlanLaw$Plan;)Z" } : Jvm.MethodName)) ∈ gtbl := gt8 (i := 74) rfl rfl
theorem q_1755 : (Cond.static ({ cls := "FlatPlanLaw", name := "items", desc := "(LFlatPlan;LFlatPlanLaw$Plan;)Z" } : Jvm.MethodName)) ∈ gtbl := gt8 (i := 75) rfl rfl
theorem q_1756 : (Cond.code ({ cls := "FlatPlanLaw", name := "items", desc := "(LFlatPlan;LFlatPlanLaw$Plan;)Z" } : Jvm.MethodName) method_14_code (8 : Nat) (Option.some FieldType.boolean)) ∈ gtbl := gt8 (i := 76) rfl rfl
theorem q_1757 : (Cond.classLink "FlatPlanLaw" (56 : Nat) "java/util/ArrayList") ∈ gtbl := gt8 (i := 77) rfl rfl
theorem q_1758 : (Cond.methodLink "FlatPlanLaw" (324 : Nat) ({ cls := "java/util/ArrayList", name := "<init>", desc := "()V" } : Jvm.MethodName)) ∈ gtbl := gt8 (i := 78) rfl rfl
theorem q_1759 : (Cond.methodLink "FlatPlanLaw" (325 : Nat) ({ cls := "FlatPlanLaw$Plan", name := "isShut", desc := "(I)Z" } : Jvm.MethodName)) ∈ gtbl := gt8 (i := 79) rfl rfl
theorem q_1760 : (Cond.methodLink "FlatPlanLaw" (328 : Nat) ({ cls := "FlatPlanLaw$Plan", name := "open", desc := "(LFlatPlanLaw$Item;)Z" } : Jvm.MethodName)) ∈ gtbl := gt8 (i := 80) rfl rfl
theorem q_1761 : (Cond.instanceMethod ({ cls := "FlatPlanLaw$Plan", name := "open", desc := "(LFlatPlanLaw$Item;)Z" } : Jvm.MethodName)) ∈ gtbl := gt8 (i := 81) rfl rfl
theorem q_1762 : (Cond.selects "FlatPlanLaw$Plan" ({ cls := "FlatPlanLaw$Plan", name := "open", desc := "(LFlatPlanLaw$Item;)Z" } : Jvm.MethodName) ({ cls := "FlatPlanLaw$Plan", name := "open", desc := "(LFlatPlanLaw$Item;)Z" } : Jvm.MethodName)) ∈ gtbl := gt8 (i := 82) rfl rfl
theorem q_1763 : (Cond.code ({ cls := "FlatPlanLaw$Plan", name := "open", desc := "(LFlatPlanLaw$Item;)Z" } : Jvm.MethodName) prog_14_method_14_code (3 : Nat) (Option.some FieldType.boolean)) ∈ gtbl := gt8 (i := 83) rfl rfl
theorem q_1764 : (Cond.methodLink "FlatPlanLaw" (332 : Nat) ({ cls := "FlatPlanLaw", name := "ready", desc := "(LFlatPlanLaw$Plan;I)I" } : Jvm.MethodName)) ∈ gtbl := gt8 (i := 84) rfl rfl
theorem q_1765 : (Cond.static ({ cls := "FlatPlanLaw", name := "ready", desc := "(LFlatPlanLaw$Plan;I)I" } : Jvm.MethodName)) ∈ gtbl := gt8 (i := 85) rfl rfl
theorem q_1766 : (Cond.code ({ cls := "FlatPlanLaw", name := "ready", desc := "(LFlatPlanLaw$Plan;I)I" } : Jvm.MethodName) method_15_code (2 : Nat) (Option.some FieldType.int)) ∈ gtbl := gt8 (i := 86) rfl rfl
theorem q_1767 : (Cond.methodLink "FlatPlanLaw" (335 : Nat) ({ cls := "java/lang/Integer", name := "valueOf", desc := "(I)Ljava/lang/Integer;" } : Jvm.MethodName)) ∈ gtbl := gt8 (i := 87) rfl rfl
theorem q_1768 : (Cond.methodLink "FlatPlanLaw" (339 : Nat) ({ cls := "java/util/ArrayList", name := "add", desc := "(ILjava/lang/Object;)V" } : Jvm.MethodName)) ∈ gtbl := gt8 (i := 88) rfl rfl
theorem q_1769 : (Cond.instanceMethod ({ cls := "java/util/ArrayList", name := "add", desc := "(ILjava/lang/Object;)V" } : Jvm.MethodName)) ∈ gtbl := gt8 (i := 89) rfl rfl
theorem q_1770 : (Cond.selects "java/util/ArrayList" ({ cls := "java/util/ArrayList", name := "add", desc := "(ILjava/lang/Object;)V" } : Jvm.MethodName) ({ cls := "java/util/ArrayList", name := "add", desc := "(ILjava/lang/Object;)V" } : Jvm.MethodName)) ∈ gtbl := gt8 (i := 90) rfl rfl
theorem q_1771 : (Cond.code ({ cls := "java/util/ArrayList", name := "add", desc := "(ILjava/lang/Object;)V" } : Jvm.MethodName) prog_43_method_26_code (5 : Nat) (Option.none : Option FieldType)) ∈ gtbl := gt8 (i := 91) rfl rfl
theorem q_1772 : (Cond.methodLink "java/util/ArrayList" (135 : Nat) ({ cls := "java/util/ArrayList", name := "rangeCheckForAdd", desc := "(I)V" } : Jvm.MethodName)) ∈ gtbl := gt8 (i := 92) rfl rfl
theorem q_1774 : (Cond.instanceMethod ({ cls := "java/util/ArrayList", name := "rangeCheckForAdd", desc := "(I)V" } : Jvm.MethodName)) ∈ gtbl := gt8 (i := 94) rfl rfl
theorem q_1775 : (Cond.code ({ cls := "java/util/ArrayList", name := "rangeCheckForAdd", desc := "(I)V" } : Jvm.MethodName) prog_43_method_45_code (2 : Nat) (Option.none : Option FieldType)) ∈ gtbl := gt8 (i := 95) rfl rfl
theorem q_1776 : (Cond.classLink "java/util/ArrayList" (187 : Nat) "java/lang/IndexOutOfBoundsException") ∈ gtbl := gt8 (i := 96) rfl rfl
theorem q_1777 : (Cond.methodLink "java/util/ArrayList" (198 : Nat) ({ cls := "java/util/ArrayList", name := "outOfBoundsMsg", desc := "(I)Ljava/lang/String;" } : Jvm.MethodName)) ∈ gtbl := gt8 (i := 97) rfl rfl
theorem q_1779 : (Cond.instanceMethod ({ cls := "java/util/ArrayList", name := "outOfBoundsMsg", desc := "(I)Ljava/lang/String;" } : Jvm.MethodName)) ∈ gtbl := gt8 (i := 99) rfl rfl
theorem q_1780 : (Cond.code ({ cls := "java/util/ArrayList", name := "outOfBoundsMsg", desc := "(I)Ljava/lang/String;" } : Jvm.MethodName) prog_43_method_46_code (2 : Nat) (Option.some (FieldType.object "java/lang/String"))) ∈ gtbl := gt8 (i := 100) rfl rfl
theorem q_1781 : (Cond.classLink "java/util/ArrayList" (20 : Nat) "java/lang/StringBuilder") ∈ gtbl := gt8 (i := 101) rfl rfl
theorem q_1782 : (Cond.methodLink "java/util/ArrayList" (22 : Nat) ({ cls := "java/lang/StringBuilder", name := "<init>", desc := "()V" } : Jvm.MethodName)) ∈ gtbl := gt8 (i := 102) rfl rfl
theorem q_1784 : (Cond.methodLink "java/util/ArrayList" (25 : Nat) ({ cls := "java/lang/StringBuilder", name := "append", desc := "(Ljava/lang/String;)Ljava/lang/StringBuilder;" } : Jvm.MethodName)) ∈ gtbl := gt8 (i := 104) rfl rfl
theorem q_1785 : (Cond.methodLink "java/util/ArrayList" (29 : Nat) ({ cls := "java/lang/StringBuilder", name := "append", desc := "(I)Ljava/lang/StringBuilder;" } : Jvm.MethodName)) ∈ gtbl := gt8 (i := 105) rfl rfl
theorem q_1787 : (Cond.methodLink "java/util/ArrayList" (32 : Nat) ({ cls := "java/lang/StringBuilder", name := "toString", desc := "()Ljava/lang/String;" } : Jvm.MethodName)) ∈ gtbl := gt8 (i := 107) rfl rfl
theorem q_1788 : (Cond.methodLink "java/util/ArrayList" (193 : Nat) ({ cls := "java/lang/IndexOutOfBoundsException", name := "<init>", desc := "(Ljava/lang/String;)V" } : Jvm.MethodName)) ∈ gtbl := gt8 (i := 108) rfl rfl
theorem q_1789 : (Cond.methodLink "java/util/ArrayList" (112 : Nat) ({ cls := "java/lang/System", name := "arraycopy", desc := "(Ljava/lang/Object;ILjava/lang/Object;II)V" } : Jvm.MethodName)) ∈ gtbl := gt8 (i := 109) rfl rfl
theorem q_1790 : (Cond.methodLink "FlatPlanLaw" (343 : Nat) ({ cls := "FlatPlan", name := "lateItem", desc := "(I)I" } : Jvm.MethodName)) ∈ gtbl := gt8 (i := 110) rfl rfl
theorem q_1791 : (Cond.instanceMethod ({ cls := "FlatPlan", name := "lateItem", desc := "(I)I" } : Jvm.MethodName)) ∈ gtbl := gt8 (i := 111) rfl rfl
theorem q_1792 : (Cond.selects "FlatPlan" ({ cls := "FlatPlan", name := "lateItem", desc := "(I)I" } : Jvm.MethodName) ({ cls := "FlatPlan", name := "lateItem", desc := "(I)I" } : Jvm.MethodName)) ∈ gtbl := gt8 (i := 112) rfl rfl
theorem q_1793 : (Cond.code ({ cls := "FlatPlan", name := "lateItem", desc := "(I)I" } : Jvm.MethodName) prog_1_method_44_code (2 : Nat) (Option.some FieldType.int)) ∈ gtbl := gt8 (i := 113) rfl rfl
theorem q_1794 : (Cond.methodLink "FlatPlan" (312 : Nat) ({ cls := "FlatPlan$Searches", name := "lateItemAt", desc := "(I)I" } : Jvm.MethodName)) ∈ gtbl := gt8 (i := 114) rfl rfl
theorem q_1795 : (Cond.instanceMethod ({ cls := "FlatPlan$Searches", name := "lateItemAt", desc := "(I)I" } : Jvm.MethodName)) ∈ gtbl := gt8 (i := 115) rfl rfl
theorem q_1796 : (Cond.selects "FlatPlan$Searches" ({ cls := "FlatPlan$Searches", name := "lateItemAt", desc := "(I)I" } : Jvm.MethodName) ({ cls := "FlatPlan$Searches", name := "lateItemAt", desc := "(I)I" } : Jvm.MethodName)) ∈ gtbl := gt8 (i := 116) rfl rfl
theorem q_1797 : (Cond.code ({ cls := "FlatPlan$Searches", name := "lateItemAt", desc := "(I)I" } : Jvm.MethodName) prog_8_method_24_code (4 : Nat) (Option.some FieldType.int)) ∈ gtbl := gt8 (i := 117) rfl rfl
theorem q_1798 : (Cond.methodLink "FlatPlan$Searches" (201 : Nat) ({ cls := "FlatPlan$Searches", name := "nextLateRank", desc := "(I)I" } : Jvm.MethodName)) ∈ gtbl := gt8 (i := 118) rfl rfl
theorem q_1800 : (Cond.instanceMethod ({ cls := "FlatPlan$Searches", name := "nextLateRank", desc := "(I)I" } : Jvm.MethodName)) ∈ gtbl := gt8 (i := 120) rfl rfl
theorem q_1801 : (Cond.code ({ cls := "FlatPlan$Searches", name := "nextLateRank", desc := "(I)I" } : Jvm.MethodName) prog_8_method_25_code (5 : Nat) (Option.some FieldType.int)) ∈ gtbl := gt8 (i := 121) rfl rfl
theorem q_1802 : (Cond.methodLink "FlatPlan$Searches" (204 : Nat) ({ cls := "FlatPlan$Searches", name := "adIsOpen", desc := "(I)Z" } : Jvm.MethodName)) ∈ gtbl := gt8 (i := 122) rfl rfl
theorem q_1804 : (Cond.instanceMethod ({ cls := "FlatPlan$Searches", name := "adIsOpen", desc := "(I)Z" } : Jvm.MethodName)) ∈ gtbl := gt8 (i := 124) rfl rfl
theorem q_1805 : (Cond.code ({ cls := "FlatPlan$Searches", name := "adIsOpen", desc := "(I)Z" } : Jvm.MethodName) prog_8_method_28_code (2 : Nat) (Option.some FieldType.boolean)) ∈ gtbl := gt8 (i := 125) rfl rfl
theorem q_1806 : (Cond.methodLink "FlatPlan$Searches" (210 : Nat) ({ cls := "FlatPlan$Plan", name := "isLate", desc := "(I)Z" } : Jvm.MethodName)) ∈ gtbl := gt8 (i := 126) rfl rfl
theorem q_1807 : (Cond.methodLink "FlatPlan$Searches" (213 : Nat) ({ cls := "FlatPlan$Searches", name := "rankOf", desc := "(II)I" } : Jvm.MethodName)) ∈ gtbl := gt8 (i := 127) rfl rfl
theorem q_1808 : (Cond.static ({ cls := "FlatPlan$Searches", name := "rankOf", desc := "(II)I" } : Jvm.MethodName)) ∈ gtbl := gt8 (i := 128) rfl rfl
theorem q_1809 : (Cond.code ({ cls := "FlatPlan$Searches", name := "rankOf", desc := "(II)I" } : Jvm.MethodName) prog_8_method_26_code (2 : Nat) (Option.some FieldType.int)) ∈ gtbl := gt8 (i := 129) rfl rfl
theorem q_1810 : (Cond.methodLink "FlatPlan$Searches" (216 : Nat) ({ cls := "FlatPlan$Searches", name := "nearerRank", desc := "(III)I" } : Jvm.MethodName)) ∈ gtbl := gt8 (i := 130) rfl rfl
theorem q_1811 : (Cond.static ({ cls := "FlatPlan$Searches", name := "nearerRank", desc := "(III)I" } : Jvm.MethodName)) ∈ gtbl := gt8 (i := 131) rfl rfl
theorem q_1812 : (Cond.code ({ cls := "FlatPlan$Searches", name := "nearerRank", desc := "(III)I" } : Jvm.MethodName) prog_8_method_27_code (3 : Nat) (Option.some FieldType.int)) ∈ gtbl := gt8 (i := 132) rfl rfl
theorem q_1813 : (Cond.methodLink "FlatPlan$Searches" (220 : Nat) ({ cls := "FlatPlan$Plan", name := "storyIsOpen", desc := "(I)Z" } : Jvm.MethodName)) ∈ gtbl := gt8 (i := 133) rfl rfl
theorem q_1814 : (Cond.instanceMethod ({ cls := "FlatPlan$Plan", name := "storyIsOpen", desc := "(I)Z" } : Jvm.MethodName)) ∈ gtbl := gt8 (i := 134) rfl rfl
theorem q_1815 : (Cond.selects "FlatPlan$Plan" ({ cls := "FlatPlan$Plan", name := "storyIsOpen", desc := "(I)Z" } : Jvm.MethodName) ({ cls := "FlatPlan$Plan", name := "storyIsOpen", desc := "(I)Z" } : Jvm.MethodName)) ∈ gtbl := gt8 (i := 135) rfl rfl
theorem q_1816 : (Cond.code ({ cls := "FlatPlan$Plan", name := "storyIsOpen", desc := "(I)Z" } : Jvm.MethodName) prog_6_method_25_code (2 : Nat) (Option.some FieldType.boolean)) ∈ gtbl := gt8 (i := 136) rfl rfl
theorem q_1817 : (Cond.methodLink "FlatPlan$Plan" (177 : Nat) ({ cls := "FlatPlan$Plan", name := "storyIsOnFormThat", desc := "(II)Z" } : Jvm.MethodName)) ∈ gtbl := gt8 (i := 137) rfl rfl
theorem q_1819 : (Cond.instanceMethod ({ cls := "FlatPlan$Plan", name := "storyIsOnFormThat", desc := "(II)Z" } : Jvm.MethodName)) ∈ gtbl := gt8 (i := 139) rfl rfl
theorem q_1820 : (Cond.code ({ cls := "FlatPlan$Plan", name := "storyIsOnFormThat", desc := "(II)Z" } : Jvm.MethodName) prog_6_method_26_code (4 : Nat) (Option.some FieldType.boolean)) ∈ gtbl := gt8 (i := 140) rfl rfl
theorem q_1821 : (Cond.methodLink "FlatPlanLaw" (346 : Nat) ({ cls := "FlatPlan", name := "lastReady", desc := "()I" } : Jvm.MethodName)) ∈ gtbl := gt8 (i := 141) rfl rfl
theorem q_1822 : (Cond.instanceMethod ({ cls := "FlatPlan", name := "lastReady", desc := "()I" } : Jvm.MethodName)) ∈ gtbl := gt8 (i := 142) rfl rfl
theorem q_1823 : (Cond.selects "FlatPlan" ({ cls := "FlatPlan", name := "lastReady", desc := "()I" } : Jvm.MethodName) ({ cls := "FlatPlan", name := "lastReady", desc := "()I" } : Jvm.MethodName)) ∈ gtbl := gt8 (i := 143) rfl rfl
theorem q_1824 : (Cond.code ({ cls := "FlatPlan", name := "lastReady", desc := "()I" } : Jvm.MethodName) prog_1_method_45_code (1 : Nat) (Option.some FieldType.int)) ∈ gtbl := gt8 (i := 144) rfl rfl
theorem q_1825 : (Cond.methodLink "FlatPlan" (315 : Nat) ({ cls := "FlatPlan$Searches", name := "readyLast", desc := "()I" } : Jvm.MethodName)) ∈ gtbl := gt8 (i := 145) rfl rfl
theorem q_1826 : (Cond.instanceMethod ({ cls := "FlatPlan$Searches", name := "readyLast", desc := "()I" } : Jvm.MethodName)) ∈ gtbl := gt8 (i := 146) rfl rfl
theorem q_1827 : (Cond.selects "FlatPlan$Searches" ({ cls := "FlatPlan$Searches", name := "readyLast", desc := "()I" } : Jvm.MethodName) ({ cls := "FlatPlan$Searches", name := "readyLast", desc := "()I" } : Jvm.MethodName)) ∈ gtbl := gt8 (i := 147) rfl rfl
theorem q_1828 : (Cond.code ({ cls := "FlatPlan$Searches", name := "readyLast", desc := "()I" } : Jvm.MethodName) prog_8_method_29_code (4 : Nat) (Option.some FieldType.int)) ∈ gtbl := gt8 (i := 148) rfl rfl
theorem q_1829 : (Cond.methodLink "FlatPlanLaw" (321 : Nat) ({ cls := "FlatPlanLaw", name := "better", desc := "(LFlatPlan;LFlatPlanLaw$Plan;)Z" } : Jvm.MethodName)) ∈ gtbl := gt8 (i := 149) rfl rfl
theorem q_1830 : (Cond.static ({ cls := "FlatPlanLaw", name := "better", desc := "(LFlatPlan;LFlatPlanLaw$Plan;)Z" } : Jvm.MethodName)) ∈ gtbl := gt8 (i := 150) rfl rfl
theorem q_1831 : (Cond.code ({ cls := "FlatPlanLaw", name := "better", desc := "(LFlatPlan;LFlatPlanLaw$Plan;)Z" } : Jvm.MethodName) method_16_code (7 : Nat) (Option.some FieldType.boolean)) ∈ gtbl := gt8 (i := 151) rfl rfl
theorem q_1832 : (Cond.methodLink "FlatPlanLaw" (349 : Nat) ({ cls := "FlatPlanLaw$Plan", name := "colored", desc := "()I" } : Jvm.MethodName)) ∈ gtbl := gt8 (i := 152) rfl rfl
theorem q_1833 : (Cond.instanceMethod ({ cls := "FlatPlanLaw$Plan", name := "colored", desc := "()I" } : Jvm.MethodName)) ∈ gtbl := gt8 (i := 153) rfl rfl
theorem q_1834 : (Cond.selects "FlatPlanLaw$Plan" ({ cls := "FlatPlanLaw$Plan", name := "colored", desc := "()I" } : Jvm.MethodName) ({ cls := "FlatPlanLaw$Plan", name := "colored", desc := "()I" } : Jvm.MethodName)) ∈ gtbl := gt8 (i := 154) rfl rfl
theorem q_1835 : (Cond.code ({ cls := "FlatPlanLaw$Plan", name := "colored", desc := "()I" } : Jvm.MethodName) prog_14_method_16_code (3 : Nat) (Option.some FieldType.int)) ∈ gtbl := gt8 (i := 155) rfl rfl
theorem q_1836 : (Cond.methodLink "FlatPlanLaw$Plan" (140 : Nat) ({ cls := "FlatPlanLaw$Plan", name := "hasColor", desc := "(I)Z" } : Jvm.MethodName)) ∈ gtbl := gt8 (i := 156) rfl rfl
theorem q_1837 : (Cond.methodLink "FlatPlanLaw" (352 : Nat) ({ cls := "FlatPlanLaw$Plan", name := "exchangeReason", desc := "(II)I" } : Jvm.MethodName)) ∈ gtbl := gt8 (i := 157) rfl rfl
theorem q_1838 : (Cond.instanceMethod ({ cls := "FlatPlanLaw$Plan", name := "exchangeReason", desc := "(II)I" } : Jvm.MethodName)) ∈ gtbl := gt8 (i := 158) rfl rfl
theorem q_1839 : (Cond.selects "FlatPlanLaw$Plan" ({ cls := "FlatPlanLaw$Plan", name := "exchangeReason", desc := "(II)I" } : Jvm.MethodName) ({ cls := "FlatPlanLaw$Plan", name := "exchangeReason", desc := "(II)I" } : Jvm.MethodName)) ∈ gtbl := gt8 (i := 159) rfl rfl
theorem q_1840 : (Cond.code ({ cls := "FlatPlanLaw$Plan", name := "exchangeReason", desc := "(II)I" } : Jvm.MethodName) prog_14_method_22_code (6 : Nat) (Option.some FieldType.int)) ∈ gtbl := gt8 (i := 160) rfl rfl
theorem q_1841 : (Cond.methodLink "FlatPlanLaw$Plan" (160 : Nat) ({ cls := "FlatPlanLaw$Plan", name := "swap", desc := "(II)V" } : Jvm.MethodName)) ∈ gtbl := gt8 (i := 161) rfl rfl
theorem q_1842 : (Cond.instanceMethod ({ cls := "FlatPlanLaw$Plan", name := "swap", desc := "(II)V" } : Jvm.MethodName)) ∈ gtbl := gt8 (i := 162) rfl rfl
theorem q_1843 : (Cond.selects "FlatPlanLaw$Plan" ({ cls := "FlatPlanLaw$Plan", name := "swap", desc := "(II)V" } : Jvm.MethodName) ({ cls := "FlatPlanLaw$Plan", name := "swap", desc := "(II)V" } : Jvm.MethodName)) ∈ gtbl := gt8 (i := 163) rfl rfl
theorem q_1844 : (Cond.code ({ cls := "FlatPlanLaw$Plan", name := "swap", desc := "(II)V" } : Jvm.MethodName) prog_14_method_21_code (5 : Nat) (Option.none : Option FieldType)) ∈ gtbl := gt8 (i := 164) rfl rfl
theorem q_1845 : (Cond.methodLink "FlatPlanLaw" (355 : Nat) ({ cls := "FlatPlanLaw$Plan", name := "swap", desc := "(II)V" } : Jvm.MethodName)) ∈ gtbl := gt8 (i := 165) rfl rfl
theorem q_1846 : (Cond.methodLink "FlatPlanLaw" (359 : Nat) ({ cls := "FlatPlan", name := "betterExchange", desc := "()I" } : Jvm.MethodName)) ∈ gtbl := gt8 (i := 166) rfl rfl
theorem q_1847 : (Cond.instanceMethod ({ cls := "FlatPlan", name := "betterExchange", desc := "()I" } : Jvm.MethodName)) ∈ gtbl := gt8 (i := 167) rfl rfl
theorem q_1848 : (Cond.selects "FlatPlan" ({ cls := "FlatPlan", name := "betterExchange", desc := "()I" } : Jvm.MethodName) ({ cls := "FlatPlan", name := "betterExchange", desc := "()I" } : Jvm.MethodName)) ∈ gtbl := gt8 (i := 168) rfl rfl
theorem q_1849 : (Cond.code ({ cls := "FlatPlan", name := "betterExchange", desc := "()I" } : Jvm.MethodName) prog_1_method_43_code (1 : Nat) (Option.some FieldType.int)) ∈ gtbl := gt8 (i := 169) rfl rfl
theorem q_1850 : (Cond.methodLink "FlatPlan" (309 : Nat) ({ cls := "FlatPlan$Searches", name := "bestExchange", desc := "()I" } : Jvm.MethodName)) ∈ gtbl := gt8 (i := 170) rfl rfl
theorem q_1851 : (Cond.instanceMethod ({ cls := "FlatPlan$Searches", name := "bestExchange", desc := "()I" } : Jvm.MethodName)) ∈ gtbl := gt8 (i := 171) rfl rfl
theorem q_1852 : (Cond.selects "FlatPlan$Searches" ({ cls := "FlatPlan$Searches", name := "bestExchange", desc := "()I" } : Jvm.MethodName) ({ cls := "FlatPlan$Searches", name := "bestExchange", desc := "()I" } : Jvm.MethodName)) ∈ gtbl := gt8 (i := 172) rfl rfl
theorem q_1853 : (Cond.code ({ cls := "FlatPlan$Searches", name := "bestExchange", desc := "()I" } : Jvm.MethodName) prog_8_method_20_code (6 : Nat) (Option.some FieldType.int)) ∈ gtbl := gt8 (i := 173) rfl rfl
theorem q_1854 : (Cond.methodLink "FlatPlan$Searches" (181 : Nat) ({ cls := "FlatPlan$Searches", name := "countColorPages", desc := "()V" } : Jvm.MethodName)) ∈ gtbl := gt8 (i := 174) rfl rfl
theorem q_1856 : (Cond.instanceMethod ({ cls := "FlatPlan$Searches", name := "countColorPages", desc := "()V" } : Jvm.MethodName)) ∈ gtbl := gt8 (i := 176) rfl rfl
theorem q_1857 : (Cond.code ({ cls := "FlatPlan$Searches", name := "countColorPages", desc := "()V" } : Jvm.MethodName) prog_8_method_21_code (3 : Nat) (Option.none : Option FieldType)) ∈ gtbl := gt8 (i := 177) rfl rfl
theorem q_1858 : (Cond.methodLink "FlatPlan$Searches" (190 : Nat) ({ cls := "FlatPlan$Plan", name := "hasPage", desc := "(I)Z" } : Jvm.MethodName)) ∈ gtbl := gt8 (i := 178) rfl rfl
theorem q_1859 : (Cond.methodLink "FlatPlan$Searches" (184 : Nat) ({ cls := "FlatPlan$Searches", name := "fewerColorForms", desc := "(II)I" } : Jvm.MethodName)) ∈ gtbl := gt8 (i := 179) rfl rfl
theorem q_1861 : (Cond.instanceMethod ({ cls := "FlatPlan$Searches", name := "fewerColorForms", desc := "(II)I" } : Jvm.MethodName)) ∈ gtbl := gt8 (i := 181) rfl rfl
theorem q_1862 : (Cond.code ({ cls := "FlatPlan$Searches", name := "fewerColorForms", desc := "(II)I" } : Jvm.MethodName) prog_8_method_22_code (6 : Nat) (Option.some FieldType.int)) ∈ gtbl := gt8 (i := 182) rfl rfl
theorem q_1863 : (Cond.methodLink "FlatPlan$Searches" (198 : Nat) ({ cls := "FlatPlan$Searches", name := "oneIfAny", desc := "(I)I" } : Jvm.MethodName)) ∈ gtbl := gt8 (i := 183) rfl rfl
theorem q_1864 : (Cond.static ({ cls := "FlatPlan$Searches", name := "oneIfAny", desc := "(I)I" } : Jvm.MethodName)) ∈ gtbl := gt8 (i := 184) rfl rfl
theorem q_1865 : (Cond.code ({ cls := "FlatPlan$Searches", name := "oneIfAny", desc := "(I)I" } : Jvm.MethodName) prog_8_method_23_code (1 : Nat) (Option.some FieldType.int)) ∈ gtbl := gt8 (i := 185) rfl rfl
theorem q_1866 : (Cond.methodLink "FlatPlan$Searches" (187 : Nat) ({ cls := "FlatPlan$Plan", name := "exchangeReason", desc := "(II)I" } : Jvm.MethodName)) ∈ gtbl := gt8 (i := 186) rfl rfl
theorem q_1867 : (Cond.instanceMethod ({ cls := "FlatPlan$Plan", name := "exchangeReason", desc := "(II)I" } : Jvm.MethodName)) ∈ gtbl := gt8 (i := 187) rfl rfl
theorem q_1868 : (Cond.selects "FlatPlan$Plan" ({ cls := "FlatPlan$Plan", name := "exchangeReason", desc := "(II)I" } : Jvm.MethodName) ({ cls := "FlatPlan$Plan", name := "exchangeReason", desc := "(II)I" } : Jvm.MethodName)) ∈ gtbl := gt8 (i := 188) rfl rfl
theorem q_1869 : (Cond.code ({ cls := "FlatPlan$Plan", name := "exchangeReason", desc := "(II)I" } : Jvm.MethodName) prog_6_method_20_code (5 : Nat) (Option.some FieldType.int)) ∈ gtbl := gt8 (i := 189) rfl rfl
theorem q_1870 : (Cond.methodLink "FlatPlan$Plan" (163 : Nat) ({ cls := "FlatPlan$Plan", name := "exchangedReason", desc := "(III)I" } : Jvm.MethodName)) ∈ gtbl := gt8 (i := 190) rfl rfl
theorem q_1872 : (Cond.instanceMethod ({ cls := "FlatPlan$Plan", name := "exchangedReason", desc := "(III)I" } : Jvm.MethodName)) ∈ gtbl := gt8 (i := 192) rfl rfl
theorem q_1873 : (Cond.code ({ cls := "FlatPlan$Plan", name := "exchangedReason", desc := "(III)I" } : Jvm.MethodName) prog_6_method_21_code (7 : Nat) (Option.some FieldType.int)) ∈ gtbl := gt8 (i := 193) rfl rfl
theorem q_1874 : (Cond.methodLink "FlatPlan$Plan" (167 : Nat) ({ cls := "FlatPlan$Plan", name := "exchanged", desc := "(III)I" } : Jvm.MethodName)) ∈ gtbl := gt8 (i := 194) rfl rfl
theorem q_1875 : (Cond.static ({ cls := "FlatPlan$Plan", name := "exchanged", desc := "(III)I" } : Jvm.MethodName)) ∈ gtbl := gt8 (i := 195) rfl rfl
theorem q_1876 : (Cond.code ({ cls := "FlatPlan$Plan", name := "exchanged", desc := "(III)I" } : Jvm.MethodName) prog_6_method_22_code (3 : Nat) (Option.some FieldType.int)) ∈ gtbl := gt8 (i := 196) rfl rfl
theorem q_1877 : (Cond.methodLink "FlatPlan$Plan" (170 : Nat) ({ cls := "FlatPlan$Ads", name := "areRivals", desc := "(II)Z" } : Jvm.MethodName)) ∈ gtbl := gt8 (i := 197) rfl rfl
theorem q_1878 : (Cond.methodLink "FlatPlanLaw" (475 : Nat) ({ cls := "FlatPlanLaw", name := "plan", desc := "(LFlatPlanLaw$Plan;[II)Ljava/lang/String;" } : Jvm.MethodName)) ∈ gtbl := gt8 (i := 198) rfl rfl
theorem q_1879 : (Cond.static ({ cls := "FlatPlanLaw", name := "plan", desc := "(LFlatPlanLaw$Plan;[II)Ljava/lang/String;" } : Jvm.MethodName)) ∈ gtbl := gt8 (i := 199) rfl rfl
theorem q_1880 : (Cond.code ({ cls := "FlatPlanLaw", name := "plan", desc := "(LFlatPlanLaw$Plan;[II)Ljava/lang/String;" } : Jvm.MethodName) method_17_code (9 : Nat) (Option.some (FieldType.object "java/lang/String"))) ∈ gtbl := gt8 (i := 200) rfl rfl
theorem q_1887 : (Cond.constant "FlatPlanLaw" (377 : Nat) (120000 : Int32)) ∈ gtbl := gt8 (i := 207) rfl rfl
theorem q_1888 : (Cond.methodLink "FlatPlanLaw" (378 : Nat) ({ cls := "java/util/ArrayList", name := "add", desc := "(Ljava/lang/Object;)Z" } : Jvm.MethodName)) ∈ gtbl := gt8 (i := 208) rfl rfl
theorem q_1890 : (Cond.constant "FlatPlanLaw" (383 : Nat) (80000 : Int32)) ∈ gtbl := gt8 (i := 210) rfl rfl
theorem q_1892 : (Cond.constant "FlatPlanLaw" (386 : Nat) (320000 : Int32)) ∈ gtbl := gt8 (i := 212) rfl rfl
theorem q_1896 : (Cond.methodLink "FlatPlanLaw" (486 : Nat) ({ cls := "FlatPlanLaw", name := "statements", desc := "(Ljava/lang/String;)I" } : Jvm.MethodName)) ∈ gtbl := gt8 (i := 216) rfl rfl
theorem q_1897 : (Cond.static ({ cls := "FlatPlanLaw", name := "statements", desc := "(Ljava/lang/String;)I" } : Jvm.MethodName)) ∈ gtbl := gt8 (i := 217) rfl rfl
theorem q_1898 : (Cond.code ({ cls := "FlatPlanLaw", name := "statements", desc := "(Ljava/lang/String;)I" } : Jvm.MethodName) method_18_code (3 : Nat) (Option.some FieldType.int)) ∈ gtbl := gt8 (i := 218) rfl rfl
theorem q_1899 : (Cond.methodLink "FlatPlanLaw" (499 : Nat) ({ cls := "FlatPlanLaw", name := "changes", desc := "(LFlatPlan;LFlatPlanLaw$Plan;III)I" } : Jvm.MethodName)) ∈ gtbl := gt8 (i := 219) rfl rfl
theorem q_1900 : (Cond.static ({ cls := "FlatPlanLaw", name := "changes", desc := "(LFlatPlan;LFlatPlanLaw$Plan;III)I" } : Jvm.MethodName)) ∈ gtbl := gt8 (i := 220) rfl rfl
theorem q_1901 : (Cond.code ({ cls := "FlatPlanLaw", name := "changes", desc := "(LFlatPlan;LFlatPlanLaw$Plan;III)I" } : Jvm.MethodName) method_19_code (14 : Nat) (Option.some FieldType.int)) ∈ gtbl := gt8 (i := 221) rfl rfl
theorem q_1902 : (Cond.methodLink "FlatPlanLaw" (393 : Nat) ({ cls := "FlatPlan", name := "put", desc := "(II)I" } : Jvm.MethodName)) ∈ gtbl := gt8 (i := 222) rfl rfl
theorem q_1903 : (Cond.instanceMethod ({ cls := "FlatPlan", name := "put", desc := "(II)I" } : Jvm.MethodName)) ∈ gtbl := gt8 (i := 223) rfl rfl
theorem q_1904 : (Cond.selects "FlatPlan" ({ cls := "FlatPlan", name := "put", desc := "(II)I" } : Jvm.MethodName) ({ cls := "FlatPlan", name := "put", desc := "(II)I" } : Jvm.MethodName)) ∈ gtbl := gt8 (i := 224) rfl rfl
theorem q_1905 : (Cond.code ({ cls := "FlatPlan", name := "put", desc := "(II)I" } : Jvm.MethodName) prog_1_method_22_code (4 : Nat) (Option.some FieldType.int)) ∈ gtbl := gt8 (i := 225) rfl rfl
theorem q_1906 : (Cond.methodLink "FlatPlan" (251 : Nat) ({ cls := "FlatPlan$Plan", name := "isPrinted", desc := "(I)Z" } : Jvm.MethodName)) ∈ gtbl := gt8 (i := 226) rfl rfl
theorem q_1907 : (Cond.methodLink "FlatPlan" (155 : Nat) ({ cls := "FlatPlan$History", name := "keep", desc := "(LFlatPlan$State;)V" } : Jvm.MethodName)) ∈ gtbl := gt8 (i := 227) rfl rfl
theorem q_1908 : (Cond.instanceMethod ({ cls := "FlatPlan$History", name := "keep", desc := "(LFlatPlan$State;)V" } : Jvm.MethodName)) ∈ gtbl := gt8 (i := 228) rfl rfl
theorem q_1909 : (Cond.selects "FlatPlan$History" ({ cls := "FlatPlan$History", name := "keep", desc := "(LFlatPlan$State;)V" } : Jvm.MethodName) ({ cls := "FlatPlan$History", name := "keep", desc := "(LFlatPlan$State;)V" } : Jvm.MethodName)) ∈ gtbl := gt8 (i := 229) rfl rfl
theorem q_1910 : (Cond.code ({ cls := "FlatPlan$History", name := "keep", desc := "(LFlatPlan$State;)V" } : Jvm.MethodName) prog_5_method_2_code (2 : Nat) (Option.none : Option FieldType)) ∈ gtbl := gt8 (i := 230) rfl rfl
theorem q_1911 : (Cond.methodLink "FlatPlan$History" (22 : Nat) ({ cls := "FlatPlan$State", name := "copyFrom", desc := "(LFlatPlan$State;)V" } : Jvm.MethodName)) ∈ gtbl := gt8 (i := 231) rfl rfl
theorem q_1912 : (Cond.methodLink "FlatPlan$History" (29 : Nat) ({ cls := "java/lang/Math", name := "min", desc := "(II)I" } : Jvm.MethodName)) ∈ gtbl := gt8 (i := 232) rfl rfl
theorem q_1913 : (Cond.methodLink "FlatPlan" (254 : Nat) ({ cls := "FlatPlan$Plan", name := "recount", desc := "()V" } : Jvm.MethodName)) ∈ gtbl := gt8 (i := 233) rfl rfl
theorem q_1914 : (Cond.methodLink "FlatPlanLaw" (396 : Nat) ({ cls := "FlatPlanLaw$Plan", name := "shut", desc := "(LFlatPlanLaw$Item;)Z" } : Jvm.MethodName)) ∈ gtbl := gt8 (i := 234) rfl rfl
theorem q_1915 : (Cond.instanceMethod ({ cls := "FlatPlanLaw$Plan", name := "shut", desc := "(LFlatPlanLaw$Item;)Z" } : Jvm.MethodName)) ∈ gtbl := gt8 (i := 235) rfl rfl
theorem q_1916 : (Cond.selects "FlatPlanLaw$Plan" ({ cls := "FlatPlanLaw$Plan", name := "shut", desc := "(LFlatPlanLaw$Item;)Z" } : Jvm.MethodName) ({ cls := "FlatPlanLaw$Plan", name := "shut", desc := "(LFlatPlanLaw$Item;)Z" } : Jvm.MethodName)) ∈ gtbl := gt8 (i := 236) rfl rfl
theorem q_1917 : (Cond.code ({ cls := "FlatPlanLaw$Plan", name := "shut", desc := "(LFlatPlanLaw$Item;)Z" } : Jvm.MethodName) prog_14_method_15_code (3 : Nat) (Option.some FieldType.boolean)) ∈ gtbl := gt8 (i := 237) rfl rfl
theorem q_1918 : (Cond.methodLink "FlatPlanLaw" (399 : Nat) ({ cls := "FlatPlan", name := "lay", desc := "(II)I" } : Jvm.MethodName)) ∈ gtbl := gt8 (i := 238) rfl rfl
theorem q_1919 : (Cond.instanceMethod ({ cls := "FlatPlan", name := "lay", desc := "(II)I" } : Jvm.MethodName)) ∈ gtbl := gt8 (i := 239) rfl rfl
theorem q_1920 : (Cond.selects "FlatPlan" ({ cls := "FlatPlan", name := "lay", desc := "(II)I" } : Jvm.MethodName) ({ cls := "FlatPlan", name := "lay", desc := "(II)I" } : Jvm.MethodName)) ∈ gtbl := gt9 (i := 0) rfl rfl
theorem q_1921 : (Cond.code ({ cls := "FlatPlan", name := "lay", desc := "(II)I" } : Jvm.MethodName) prog_1_method_23_code (4 : Nat) (Option.some FieldType.int)) ∈ gtbl := gt9 (i := 1) rfl rfl
theorem q_1922 : (Cond.methodLink "FlatPlan" (257 : Nat) ({ cls := "FlatPlan$Plan", name := "storyIsPrinted", desc := "(I)Z" } : Jvm.MethodName)) ∈ gtbl := gt9 (i := 2) rfl rfl
theorem q_1923 : (Cond.instanceMethod ({ cls := "FlatPlan$Plan", name := "storyIsPrinted", desc := "(I)Z" } : Jvm.MethodName)) ∈ gtbl := gt9 (i := 3) rfl rfl
theorem q_1924 : (Cond.selects "FlatPlan$Plan" ({ cls := "FlatPlan$Plan", name := "storyIsPrinted", desc := "(I)Z" } : Jvm.MethodName) ({ cls := "FlatPlan$Plan", name := "storyIsPrinted", desc := "(I)Z" } : Jvm.MethodName)) ∈ gtbl := gt9 (i := 4) rfl rfl
theorem q_1925 : (Cond.code ({ cls := "FlatPlan$Plan", name := "storyIsPrinted", desc := "(I)Z" } : Jvm.MethodName) prog_6_method_24_code (2 : Nat) (Option.some FieldType.boolean)) ∈ gtbl := gt9 (i := 5) rfl rfl
theorem q_1926 : (Cond.methodLink "FlatPlanLaw" (402 : Nat) ({ cls := "FlatPlan", name := "take", desc := "(I)Z" } : Jvm.MethodName)) ∈ gtbl := gt9 (i := 6) rfl rfl
theorem q_1927 : (Cond.instanceMethod ({ cls := "FlatPlan", name := "take", desc := "(I)Z" } : Jvm.MethodName)) ∈ gtbl := gt9 (i := 7) rfl rfl
theorem q_1928 : (Cond.selects "FlatPlan" ({ cls := "FlatPlan", name := "take", desc := "(I)Z" } : Jvm.MethodName) ({ cls := "FlatPlan", name := "take", desc := "(I)Z" } : Jvm.MethodName)) ∈ gtbl := gt9 (i := 8) rfl rfl
theorem q_1929 : (Cond.code ({ cls := "FlatPlan", name := "take", desc := "(I)Z" } : Jvm.MethodName) prog_1_method_24_code (3 : Nat) (Option.some FieldType.boolean)) ∈ gtbl := gt9 (i := 9) rfl rfl
theorem q_1930 : (Cond.methodLink "FlatPlanLaw" (405 : Nat) ({ cls := "FlatPlan", name := "takeStory", desc := "(I)Z" } : Jvm.MethodName)) ∈ gtbl := gt9 (i := 10) rfl rfl
theorem q_1931 : (Cond.instanceMethod ({ cls := "FlatPlan", name := "takeStory", desc := "(I)Z" } : Jvm.MethodName)) ∈ gtbl := gt9 (i := 11) rfl rfl
theorem q_1932 : (Cond.selects "FlatPlan" ({ cls := "FlatPlan", name := "takeStory", desc := "(I)Z" } : Jvm.MethodName) ({ cls := "FlatPlan", name := "takeStory", desc := "(I)Z" } : Jvm.MethodName)) ∈ gtbl := gt9 (i := 12) rfl rfl
theorem q_1933 : (Cond.code ({ cls := "FlatPlan", name := "takeStory", desc := "(I)Z" } : Jvm.MethodName) prog_1_method_25_code (2 : Nat) (Option.some FieldType.boolean)) ∈ gtbl := gt9 (i := 13) rfl rfl
theorem q_1934 : (Cond.methodLink "FlatPlanLaw" (408 : Nat) ({ cls := "FlatPlan", name := "use", desc := "(II)I" } : Jvm.MethodName)) ∈ gtbl := gt9 (i := 14) rfl rfl
theorem q_1935 : (Cond.instanceMethod ({ cls := "FlatPlan", name := "use", desc := "(II)I" } : Jvm.MethodName)) ∈ gtbl := gt9 (i := 15) rfl rfl
theorem q_1936 : (Cond.selects "FlatPlan" ({ cls := "FlatPlan", name := "use", desc := "(II)I" } : Jvm.MethodName) ({ cls := "FlatPlan", name := "use", desc := "(II)I" } : Jvm.MethodName)) ∈ gtbl := gt9 (i := 16) rfl rfl
theorem q_1937 : (Cond.code ({ cls := "FlatPlan", name := "use", desc := "(II)I" } : Jvm.MethodName) prog_1_method_26_code (4 : Nat) (Option.some FieldType.int)) ∈ gtbl := gt9 (i := 17) rfl rfl
theorem q_1938 : (Cond.methodLink "FlatPlan" (260 : Nat) ({ cls := "FlatPlan$Plan", name := "useReason", desc := "(II)I" } : Jvm.MethodName)) ∈ gtbl := gt9 (i := 18) rfl rfl
theorem q_1939 : (Cond.instanceMethod ({ cls := "FlatPlan$Plan", name := "useReason", desc := "(II)I" } : Jvm.MethodName)) ∈ gtbl := gt9 (i := 19) rfl rfl
theorem q_1940 : (Cond.selects "FlatPlan$Plan" ({ cls := "FlatPlan$Plan", name := "useReason", desc := "(II)I" } : Jvm.MethodName) ({ cls := "FlatPlan$Plan", name := "useReason", desc := "(II)I" } : Jvm.MethodName)) ∈ gtbl := gt9 (i := 20) rfl rfl
theorem q_1941 : (Cond.code ({ cls := "FlatPlan$Plan", name := "useReason", desc := "(II)I" } : Jvm.MethodName) prog_6_method_19_code (6 : Nat) (Option.some FieldType.int)) ∈ gtbl := gt9 (i := 21) rfl rfl
theorem q_1942 : (Cond.methodLink "FlatPlanLaw" (411 : Nat) ({ cls := "FlatPlan", name := "clear", desc := "(I)I" } : Jvm.MethodName)) ∈ gtbl := gt9 (i := 22) rfl rfl
theorem q_1943 : (Cond.instanceMethod ({ cls := "FlatPlan", name := "clear", desc := "(I)I" } : Jvm.MethodName)) ∈ gtbl := gt9 (i := 23) rfl rfl
theorem q_1944 : (Cond.selects "FlatPlan" ({ cls := "FlatPlan", name := "clear", desc := "(I)I" } : Jvm.MethodName) ({ cls := "FlatPlan", name := "clear", desc := "(I)I" } : Jvm.MethodName)) ∈ gtbl := gt9 (i := 24) rfl rfl
theorem q_1945 : (Cond.code ({ cls := "FlatPlan", name := "clear", desc := "(I)I" } : Jvm.MethodName) prog_1_method_27_code (5 : Nat) (Option.some FieldType.int)) ∈ gtbl := gt9 (i := 25) rfl rfl
theorem q_1946 : (Cond.methodLink "FlatPlanLaw" (414 : Nat) ({ cls := "FlatPlan", name := "exchange", desc := "(II)I" } : Jvm.MethodName)) ∈ gtbl := gt9 (i := 26) rfl rfl
theorem q_1947 : (Cond.instanceMethod ({ cls := "FlatPlan", name := "exchange", desc := "(II)I" } : Jvm.MethodName)) ∈ gtbl := gt9 (i := 27) rfl rfl
theorem q_1948 : (Cond.selects "FlatPlan" ({ cls := "FlatPlan", name := "exchange", desc := "(II)I" } : Jvm.MethodName) ({ cls := "FlatPlan", name := "exchange", desc := "(II)I" } : Jvm.MethodName)) ∈ gtbl := gt9 (i := 28) rfl rfl
theorem q_1949 : (Cond.code ({ cls := "FlatPlan", name := "exchange", desc := "(II)I" } : Jvm.MethodName) prog_1_method_28_code (6 : Nat) (Option.some FieldType.int)) ∈ gtbl := gt9 (i := 29) rfl rfl
theorem q_1950 : (Cond.methodLink "FlatPlan" (263 : Nat) ({ cls := "FlatPlan$Plan", name := "exchangeReason", desc := "(II)I" } : Jvm.MethodName)) ∈ gtbl := gt9 (i := 30) rfl rfl
theorem q_1951 : (Cond.methodLink "FlatPlan" (266 : Nat) ({ cls := "FlatPlan$Plan", name := "exchanged", desc := "(III)I" } : Jvm.MethodName)) ∈ gtbl := gt9 (i := 31) rfl rfl
theorem q_1952 : (Cond.methodLink "FlatPlanLaw" (417 : Nat) ({ cls := "FlatPlanLaw", name := "others", desc := "(LFlatPlan;LFlatPlanLaw$Plan;IIIILFlatPlanLaw$Item;I)I" } : Jvm.MethodName)) ∈ gtbl := gt9 (i := 32) rfl rfl
theorem q_1953 : (Cond.static ({ cls := "FlatPlanLaw", name := "others", desc := "(LFlatPlan;LFlatPlanLaw$Plan;IIIILFlatPlanLaw$Item;I)I" } : Jvm.MethodName)) ∈ gtbl := gt9 (i := 33) rfl rfl
theorem q_1954 : (Cond.code ({ cls := "FlatPlanLaw", name := "others", desc := "(LFlatPlan;LFlatPlanLaw$Plan;IIIILFlatPlanLaw$Item;I)I" } : Jvm.MethodName) method_20_code (13 : Nat) (Option.some FieldType.int)) ∈ gtbl := gt9 (i := 34) rfl rfl
theorem q_1955 : (Cond.methodLink "FlatPlanLaw" (421 : Nat) ({ cls := "FlatPlan", name := "setColor", desc := "(IZ)Z" } : Jvm.MethodName)) ∈ gtbl := gt9 (i := 35) rfl rfl
theorem q_1956 : (Cond.instanceMethod ({ cls := "FlatPlan", name := "setColor", desc := "(IZ)Z" } : Jvm.MethodName)) ∈ gtbl := gt9 (i := 36) rfl rfl
theorem q_1957 : (Cond.selects "FlatPlan" ({ cls := "FlatPlan", name := "setColor", desc := "(IZ)Z" } : Jvm.MethodName) ({ cls := "FlatPlan", name := "setColor", desc := "(IZ)Z" } : Jvm.MethodName)) ∈ gtbl := gt9 (i := 37) rfl rfl
theorem q_1958 : (Cond.code ({ cls := "FlatPlan", name := "setColor", desc := "(IZ)Z" } : Jvm.MethodName) prog_1_method_29_code (4 : Nat) (Option.some FieldType.boolean)) ∈ gtbl := gt9 (i := 38) rfl rfl
theorem q_1959 : (Cond.methodLink "FlatPlanLaw" (425 : Nat) ({ cls := "FlatPlanLaw$Plan", name := "close", desc := "(I)V" } : Jvm.MethodName)) ∈ gtbl := gt9 (i := 39) rfl rfl
theorem q_1960 : (Cond.methodLink "FlatPlanLaw" (429 : Nat) ({ cls := "FlatPlan", name := "setClosing", desc := "(II)I" } : Jvm.MethodName)) ∈ gtbl := gt9 (i := 40) rfl rfl
theorem q_1961 : (Cond.instanceMethod ({ cls := "FlatPlan", name := "setClosing", desc := "(II)I" } : Jvm.MethodName)) ∈ gtbl := gt9 (i := 41) rfl rfl
theorem q_1962 : (Cond.selects "FlatPlan" ({ cls := "FlatPlan", name := "setClosing", desc := "(II)I" } : Jvm.MethodName) ({ cls := "FlatPlan", name := "setClosing", desc := "(II)I" } : Jvm.MethodName)) ∈ gtbl := gt9 (i := 42) rfl rfl
theorem q_1963 : (Cond.code ({ cls := "FlatPlan", name := "setClosing", desc := "(II)I" } : Jvm.MethodName) prog_1_method_30_code (5 : Nat) (Option.some FieldType.int)) ∈ gtbl := gt9 (i := 43) rfl rfl
theorem q_1965 : (Cond.methodLink "FlatPlan" (272 : Nat) ({ cls := "FlatPlan$Plan", name := "closeDueForms", desc := "()I" } : Jvm.MethodName)) ∈ gtbl := gt9 (i := 45) rfl rfl
theorem q_1966 : (Cond.instanceMethod ({ cls := "FlatPlan$Plan", name := "closeDueForms", desc := "()I" } : Jvm.MethodName)) ∈ gtbl := gt9 (i := 46) rfl rfl
theorem q_1967 : (Cond.selects "FlatPlan$Plan" ({ cls := "FlatPlan$Plan", name := "closeDueForms", desc := "()I" } : Jvm.MethodName) ({ cls := "FlatPlan$Plan", name := "closeDueForms", desc := "()I" } : Jvm.MethodName)) ∈ gtbl := gt9 (i := 47) rfl rfl
theorem q_1968 : (Cond.code ({ cls := "FlatPlan$Plan", name := "closeDueForms", desc := "()I" } : Jvm.MethodName) prog_6_method_32_code (4 : Nat) (Option.some FieldType.int)) ∈ gtbl := gt9 (i := 48) rfl rfl
theorem q_1969 : (Cond.methodLink "FlatPlan$Plan" (190 : Nat) ({ cls := "FlatPlan$Plan", name := "soonestForm", desc := "()I" } : Jvm.MethodName)) ∈ gtbl := gt9 (i := 49) rfl rfl
theorem q_1970 : (Cond.methodLink "FlatPlan$Plan" (194 : Nat) ({ cls := "FlatPlan$Plan", name := "closeForm", desc := "(I)V" } : Jvm.MethodName)) ∈ gtbl := gt9 (i := 50) rfl rfl
theorem q_1972 : (Cond.instanceMethod ({ cls := "FlatPlan$Plan", name := "closeForm", desc := "(I)V" } : Jvm.MethodName)) ∈ gtbl := gt9 (i := 52) rfl rfl
theorem q_1973 : (Cond.code ({ cls := "FlatPlan$Plan", name := "closeForm", desc := "(I)V" } : Jvm.MethodName) prog_6_method_33_code (3 : Nat) (Option.none : Option FieldType)) ∈ gtbl := gt9 (i := 53) rfl rfl
theorem q_1974 : (Cond.methodLink "FlatPlan$Plan" (198 : Nat) ({ cls := "FlatPlan$Plan", name := "replaceLateAds", desc := "(I)V" } : Jvm.MethodName)) ∈ gtbl := gt9 (i := 54) rfl rfl
theorem q_1976 : (Cond.instanceMethod ({ cls := "FlatPlan$Plan", name := "replaceLateAds", desc := "(I)V" } : Jvm.MethodName)) ∈ gtbl := gt9 (i := 56) rfl rfl
theorem q_1977 : (Cond.code ({ cls := "FlatPlan$Plan", name := "replaceLateAds", desc := "(I)V" } : Jvm.MethodName) prog_6_method_34_code (5 : Nat) (Option.none : Option FieldType)) ∈ gtbl := gt9 (i := 57) rfl rfl
theorem q_1978 : (Cond.methodLink "FlatPlan$Plan" (204 : Nat) ({ cls := "FlatPlan$Standbys", name := "unused", desc := "(I)I" } : Jvm.MethodName)) ∈ gtbl := gt9 (i := 58) rfl rfl
theorem q_1979 : (Cond.instanceMethod ({ cls := "FlatPlan$Standbys", name := "unused", desc := "(I)I" } : Jvm.MethodName)) ∈ gtbl := gt9 (i := 59) rfl rfl
theorem q_1980 : (Cond.selects "FlatPlan$Standbys" ({ cls := "FlatPlan$Standbys", name := "unused", desc := "(I)I" } : Jvm.MethodName) ({ cls := "FlatPlan$Standbys", name := "unused", desc := "(I)I" } : Jvm.MethodName)) ∈ gtbl := gt9 (i := 60) rfl rfl
theorem q_1981 : (Cond.code ({ cls := "FlatPlan$Standbys", name := "unused", desc := "(I)I" } : Jvm.MethodName) prog_9_method_3_code (3 : Nat) (Option.some FieldType.int)) ∈ gtbl := gt9 (i := 61) rfl rfl
theorem q_1982 : (Cond.methodLink "FlatPlanLaw" (432 : Nat) ({ cls := "FlatPlan", name := "pass", desc := "(I)I" } : Jvm.MethodName)) ∈ gtbl := gt9 (i := 62) rfl rfl
theorem q_1983 : (Cond.instanceMethod ({ cls := "FlatPlan", name := "pass", desc := "(I)I" } : Jvm.MethodName)) ∈ gtbl := gt9 (i := 63) rfl rfl
theorem q_1984 : (Cond.selects "FlatPlan" ({ cls := "FlatPlan", name := "pass", desc := "(I)I" } : Jvm.MethodName) ({ cls := "FlatPlan", name := "pass", desc := "(I)I" } : Jvm.MethodName)) ∈ gtbl := gt9 (i := 64) rfl rfl
theorem q_1985 : (Cond.code ({ cls := "FlatPlan", name := "pass", desc := "(I)I" } : Jvm.MethodName) prog_1_method_31_code (4 : Nat) (Option.some FieldType.int)) ∈ gtbl := gt9 (i := 65) rfl rfl
theorem q_1987 : (Cond.methodLink "FlatPlanLaw" (433 : Nat) ({ cls := "FlatPlan", name := "print", desc := "(I)I" } : Jvm.MethodName)) ∈ gtbl := gt9 (i := 67) rfl rfl
theorem q_1988 : (Cond.instanceMethod ({ cls := "FlatPlan", name := "print", desc := "(I)I" } : Jvm.MethodName)) ∈ gtbl := gt9 (i := 68) rfl rfl
theorem q_1989 : (Cond.selects "FlatPlan" ({ cls := "FlatPlan", name := "print", desc := "(I)I" } : Jvm.MethodName) ({ cls := "FlatPlan", name := "print", desc := "(I)I" } : Jvm.MethodName)) ∈ gtbl := gt9 (i := 69) rfl rfl
theorem q_1990 : (Cond.code ({ cls := "FlatPlan", name := "print", desc := "(I)I" } : Jvm.MethodName) prog_1_method_32_code (2 : Nat) (Option.some FieldType.int)) ∈ gtbl := gt9 (i := 70) rfl rfl
theorem q_1991 : (Cond.methodLink "FlatPlanLaw" (436 : Nat) ({ cls := "FlatPlan", name := "placeAds", desc := "()I" } : Jvm.MethodName)) ∈ gtbl := gt9 (i := 71) rfl rfl
theorem q_1992 : (Cond.instanceMethod ({ cls := "FlatPlan", name := "placeAds", desc := "()I" } : Jvm.MethodName)) ∈ gtbl := gt9 (i := 72) rfl rfl
theorem q_1993 : (Cond.selects "FlatPlan" ({ cls := "FlatPlan", name := "placeAds", desc := "()I" } : Jvm.MethodName) ({ cls := "FlatPlan", name := "placeAds", desc := "()I" } : Jvm.MethodName)) ∈ gtbl := gt9 (i := 73) rfl rfl
theorem q_1994 : (Cond.code ({ cls := "FlatPlan", name := "placeAds", desc := "()I" } : Jvm.MethodName) prog_1_method_34_code (1 : Nat) (Option.some FieldType.int)) ∈ gtbl := gt9 (i := 74) rfl rfl
theorem q_1995 : (Cond.methodLink "FlatPlan" (280 : Nat) ({ cls := "FlatPlan$Searches", name := "placeFreeAds", desc := "()I" } : Jvm.MethodName)) ∈ gtbl := gt9 (i := 75) rfl rfl
theorem q_1996 : (Cond.instanceMethod ({ cls := "FlatPlan$Searches", name := "placeFreeAds", desc := "()I" } : Jvm.MethodName)) ∈ gtbl := gt9 (i := 76) rfl rfl
theorem q_1997 : (Cond.selects "FlatPlan$Searches" ({ cls := "FlatPlan$Searches", name := "placeFreeAds", desc := "()I" } : Jvm.MethodName) ({ cls := "FlatPlan$Searches", name := "placeFreeAds", desc := "()I" } : Jvm.MethodName)) ∈ gtbl := gt9 (i := 77) rfl rfl
theorem q_1998 : (Cond.code ({ cls := "FlatPlan$Searches", name := "placeFreeAds", desc := "()I" } : Jvm.MethodName) prog_8_method_2_code (5 : Nat) (Option.some FieldType.int)) ∈ gtbl := gt9 (i := 78) rfl rfl
theorem q_1999 : (Cond.methodLink "FlatPlan$Searches" (63 : Nat) ({ cls := "FlatPlan$Searches", name := "insertAd", desc := "(II)V" } : Jvm.MethodName)) ∈ gtbl := gt9 (i := 79) rfl rfl
theorem q_2001 : (Cond.instanceMethod ({ cls := "FlatPlan$Searches", name := "insertAd", desc := "(II)V" } : Jvm.MethodName)) ∈ gtbl := gt9 (i := 81) rfl rfl
theorem q_2002 : (Cond.code ({ cls := "FlatPlan$Searches", name := "insertAd", desc := "(II)V" } : Jvm.MethodName) prog_8_method_3_code (4 : Nat) (Option.none : Option FieldType)) ∈ gtbl := gt9 (i := 82) rfl rfl
theorem q_2003 : (Cond.methodLink "FlatPlan$Searches" (74 : Nat) ({ cls := "FlatPlan$Searches", name := "comesBefore", desc := "(II)Z" } : Jvm.MethodName)) ∈ gtbl := gt9 (i := 83) rfl rfl
theorem q_2005 : (Cond.instanceMethod ({ cls := "FlatPlan$Searches", name := "comesBefore", desc := "(II)Z" } : Jvm.MethodName)) ∈ gtbl := gt9 (i := 85) rfl rfl
theorem q_2006 : (Cond.code ({ cls := "FlatPlan$Searches", name := "comesBefore", desc := "(II)Z" } : Jvm.MethodName) prog_8_method_4_code (4 : Nat) (Option.some FieldType.boolean)) ∈ gtbl := gt9 (i := 86) rfl rfl
theorem q_2007 : (Cond.methodLink "FlatPlan$Searches" (67 : Nat) ({ cls := "FlatPlan$Plan", name := "firstFor", desc := "(II)I" } : Jvm.MethodName)) ∈ gtbl := gt9 (i := 87) rfl rfl
theorem q_2008 : (Cond.methodLink "FlatPlan$Searches" (71 : Nat) ({ cls := "FlatPlan$Plan", name := "recount", desc := "()V" } : Jvm.MethodName)) ∈ gtbl := gt9 (i := 88) rfl rfl
theorem q_2009 : (Cond.methodLink "FlatPlanLaw" (439 : Nat) ({ cls := "FlatPlanLaw", name := "places", desc := "(LFlatPlanLaw$Plan;)I" } : Jvm.MethodName)) ∈ gtbl := gt9 (i := 89) rfl rfl
theorem q_2010 : (Cond.static ({ cls := "FlatPlanLaw", name := "places", desc := "(LFlatPlanLaw$Plan;)I" } : Jvm.MethodName)) ∈ gtbl := gt9 (i := 90) rfl rfl
theorem q_2011 : (Cond.code ({ cls := "FlatPlanLaw", name := "places", desc := "(LFlatPlanLaw$Plan;)I" } : Jvm.MethodName) method_21_code (7 : Nat) (Option.some FieldType.int)) ∈ gtbl := gt9 (i := 91) rfl rfl
theorem q_2012 : (Cond.methodLink "FlatPlanLaw" (443 : Nat) ({ cls := "FlatPlan", name := "layStories", desc := "()I" } : Jvm.MethodName)) ∈ gtbl := gt9 (i := 92) rfl rfl
theorem q_2013 : (Cond.instanceMethod ({ cls := "FlatPlan", name := "layStories", desc := "()I" } : Jvm.MethodName)) ∈ gtbl := gt9 (i := 93) rfl rfl
theorem q_2014 : (Cond.selects "FlatPlan" ({ cls := "FlatPlan", name := "layStories", desc := "()I" } : Jvm.MethodName) ({ cls := "FlatPlan", name := "layStories", desc := "()I" } : Jvm.MethodName)) ∈ gtbl := gt9 (i := 94) rfl rfl
theorem q_2015 : (Cond.code ({ cls := "FlatPlan", name := "layStories", desc := "()I" } : Jvm.MethodName) prog_1_method_35_code (1 : Nat) (Option.some FieldType.int)) ∈ gtbl := gt9 (i := 95) rfl rfl
theorem q_2016 : (Cond.methodLink "FlatPlan" (283 : Nat) ({ cls := "FlatPlan$Searches", name := "layFreeStories", desc := "()I" } : Jvm.MethodName)) ∈ gtbl := gt9 (i := 96) rfl rfl
theorem q_2017 : (Cond.instanceMethod ({ cls := "FlatPlan$Searches", name := "layFreeStories", desc := "()I" } : Jvm.MethodName)) ∈ gtbl := gt9 (i := 97) rfl rfl
theorem q_2018 : (Cond.selects "FlatPlan$Searches" ({ cls := "FlatPlan$Searches", name := "layFreeStories", desc := "()I" } : Jvm.MethodName) ({ cls := "FlatPlan$Searches", name := "layFreeStories", desc := "()I" } : Jvm.MethodName)) ∈ gtbl := gt9 (i := 98) rfl rfl
theorem q_2019 : (Cond.code ({ cls := "FlatPlan$Searches", name := "layFreeStories", desc := "()I" } : Jvm.MethodName) prog_8_method_5_code (4 : Nat) (Option.some FieldType.int)) ∈ gtbl := gt9 (i := 99) rfl rfl
theorem q_2020 : (Cond.methodLink "FlatPlan$Searches" (95 : Nat) ({ cls := "FlatPlan$Searches", name := "layFirst", desc := "(I)Z" } : Jvm.MethodName)) ∈ gtbl := gt9 (i := 100) rfl rfl
theorem q_2022 : (Cond.instanceMethod ({ cls := "FlatPlan$Searches", name := "layFirst", desc := "(I)Z" } : Jvm.MethodName)) ∈ gtbl := gt9 (i := 102) rfl rfl
theorem q_2023 : (Cond.code ({ cls := "FlatPlan$Searches", name := "layFirst", desc := "(I)Z" } : Jvm.MethodName) prog_8_method_6_code (3 : Nat) (Option.some FieldType.boolean)) ∈ gtbl := gt9 (i := 103) rfl rfl
theorem q_2024 : (Cond.methodLink "FlatPlan$Searches" (102 : Nat) ({ cls := "FlatPlan$Plan", name := "layReason", desc := "(II)I" } : Jvm.MethodName)) ∈ gtbl := gt9 (i := 104) rfl rfl
theorem q_2025 : (Cond.methodLink "FlatPlanLaw" (446 : Nat) ({ cls := "FlatPlan", name := "addAd", desc := "(IIII)I" } : Jvm.MethodName)) ∈ gtbl := gt9 (i := 105) rfl rfl
theorem q_2026 : (Cond.instanceMethod ({ cls := "FlatPlan", name := "addAd", desc := "(IIII)I" } : Jvm.MethodName)) ∈ gtbl := gt9 (i := 106) rfl rfl
theorem q_2027 : (Cond.selects "FlatPlan" ({ cls := "FlatPlan", name := "addAd", desc := "(IIII)I" } : Jvm.MethodName) ({ cls := "FlatPlan", name := "addAd", desc := "(IIII)I" } : Jvm.MethodName)) ∈ gtbl := gt9 (i := 107) rfl rfl
theorem q_2028 : (Cond.code ({ cls := "FlatPlan", name := "addAd", desc := "(IIII)I" } : Jvm.MethodName) prog_1_method_9_code (6 : Nat) (Option.some FieldType.int)) ∈ gtbl := gt9 (i := 108) rfl rfl
theorem q_2029 : (Cond.methodLink "FlatPlan" (141 : Nat) ({ cls := "FlatPlan", name := "isSize", desc := "(I)Z" } : Jvm.MethodName)) ∈ gtbl := gt9 (i := 109) rfl rfl
theorem q_2030 : (Cond.methodLink "FlatPlan" (145 : Nat) ({ cls := "FlatPlan", name := "isPrice", desc := "(I)Z" } : Jvm.MethodName)) ∈ gtbl := gt9 (i := 110) rfl rfl
theorem q_2031 : (Cond.static ({ cls := "FlatPlan", name := "isPrice", desc := "(I)Z" } : Jvm.MethodName)) ∈ gtbl := gt9 (i := 111) rfl rfl
theorem q_2032 : (Cond.code ({ cls := "FlatPlan", name := "isPrice", desc := "(I)Z" } : Jvm.MethodName) prog_1_method_70_code (1 : Nat) (Option.some FieldType.boolean)) ∈ gtbl := gt9 (i := 112) rfl rfl
theorem q_2034 : (Cond.methodLink "FlatPlan" (158 : Nat) ({ cls := "FlatPlan$Ads", name := "add", desc := "(IIII)I" } : Jvm.MethodName)) ∈ gtbl := gt9 (i := 114) rfl rfl
theorem q_2035 : (Cond.methodLink "FlatPlanLaw" (450 : Nat) ({ cls := "FlatPlan", name := "setAd", desc := "(IZI)Z" } : Jvm.MethodName)) ∈ gtbl := gt9 (i := 115) rfl rfl
theorem q_2036 : (Cond.instanceMethod ({ cls := "FlatPlan", name := "setAd", desc := "(IZI)Z" } : Jvm.MethodName)) ∈ gtbl := gt9 (i := 116) rfl rfl
theorem q_2037 : (Cond.selects "FlatPlan" ({ cls := "FlatPlan", name := "setAd", desc := "(IZI)Z" } : Jvm.MethodName) ({ cls := "FlatPlan", name := "setAd", desc := "(IZI)Z" } : Jvm.MethodName)) ∈ gtbl := gt9 (i := 117) rfl rfl
theorem q_2038 : (Cond.code ({ cls := "FlatPlan", name := "setAd", desc := "(IZI)Z" } : Jvm.MethodName) prog_1_method_10_code (5 : Nat) (Option.some FieldType.boolean)) ∈ gtbl := gt9 (i := 118) rfl rfl
theorem q_2040 : (Cond.methodLink "FlatPlanLaw" (454 : Nat) ({ cls := "FlatPlan", name := "setPrice", desc := "(II)I" } : Jvm.MethodName)) ∈ gtbl := gt9 (i := 120) rfl rfl
theorem q_2041 : (Cond.instanceMethod ({ cls := "FlatPlan", name := "setPrice", desc := "(II)I" } : Jvm.MethodName)) ∈ gtbl := gt9 (i := 121) rfl rfl
theorem q_2042 : (Cond.selects "FlatPlan" ({ cls := "FlatPlan", name := "setPrice", desc := "(II)I" } : Jvm.MethodName) ({ cls := "FlatPlan", name := "setPrice", desc := "(II)I" } : Jvm.MethodName)) ∈ gtbl := gt9 (i := 122) rfl rfl
theorem q_2043 : (Cond.code ({ cls := "FlatPlan", name := "setPrice", desc := "(II)I" } : Jvm.MethodName) prog_1_method_11_code (4 : Nat) (Option.some FieldType.int)) ∈ gtbl := gt9 (i := 123) rfl rfl
theorem q_2045 : (Cond.methodLink "FlatPlanLaw" (496 : Nat) ({ cls := "java/lang/String", name := "substring", desc := "(I)Ljava/lang/String;" } : Jvm.MethodName)) ∈ gtbl := gt9 (i := 125) rfl rfl
theorem q_2046 : (Cond.instanceMethod ({ cls := "java/lang/String", name := "substring", desc := "(I)Ljava/lang/String;" } : Jvm.MethodName)) ∈ gtbl := gt9 (i := 126) rfl rfl
theorem q_2047 : (Cond.selects "java/lang/String" ({ cls := "java/lang/String", name := "substring", desc := "(I)Ljava/lang/String;" } : Jvm.MethodName) ({ cls := "java/lang/String", name := "substring", desc := "(I)Ljava/lang/String;" } : Jvm.MethodName)) ∈ gtbl := gt9 (i := 127) rfl rfl
theorem q_2048 : (Cond.code ({ cls := "java/lang/String", name := "substring", desc := "(I)Ljava/lang/String;" } : Jvm.MethodName) prog_33_method_91_code (2 : Nat) (Option.some (FieldType.object "java/lang/String"))) ∈ gtbl := gt9 (i := 128) rfl rfl
theorem q_2049 : (Cond.methodLink "java/lang/String" (505 : Nat) ({ cls := "java/lang/String", name := "length", desc := "()I" } : Jvm.MethodName)) ∈ gtbl := gt9 (i := 129) rfl rfl
theorem q_2050 : (Cond.methodLink "java/lang/String" (681 : Nat) ({ cls := "java/lang/String", name := "substring", desc := "(II)Ljava/lang/String;" } : Jvm.MethodName)) ∈ gtbl := gt9 (i := 130) rfl rfl
theorem q_2051 : (Cond.instanceMethod ({ cls := "java/lang/String", name := "substring", desc := "(II)Ljava/lang/String;" } : Jvm.MethodName)) ∈ gtbl := gt9 (i := 131) rfl rfl
theorem q_2052 : (Cond.selects "java/lang/String" ({ cls := "java/lang/String", name := "substring", desc := "(II)Ljava/lang/String;" } : Jvm.MethodName) ({ cls := "java/lang/String", name := "substring", desc := "(II)Ljava/lang/String;" } : Jvm.MethodName)) ∈ gtbl := gt9 (i := 132) rfl rfl
theorem q_2053 : (Cond.code ({ cls := "java/lang/String", name := "substring", desc := "(II)Ljava/lang/String;" } : Jvm.MethodName) prog_33_method_92_code (5 : Nat) (Option.some (FieldType.object "java/lang/String"))) ∈ gtbl := gt9 (i := 133) rfl rfl
theorem q_2054 : (Cond.methodLink "java/lang/String" (521 : Nat) ({ cls := "java/lang/String", name := "checkBoundsBeginEnd", desc := "(III)V" } : Jvm.MethodName)) ∈ gtbl := gt9 (i := 134) rfl rfl
theorem q_2055 : (Cond.methodLink "java/lang/String" (685 : Nat) ({ cls := "java/lang/StringLatin1", name := "newString", desc := "([BII)Ljava/lang/String;" } : Jvm.MethodName)) ∈ gtbl := gt9 (i := 135) rfl rfl
theorem q_2056 : (Cond.static ({ cls := "java/lang/StringLatin1", name := "newString", desc := "([BII)Ljava/lang/String;" } : Jvm.MethodName)) ∈ gtbl := gt9 (i := 136) rfl rfl
theorem q_2057 : (Cond.code ({ cls := "java/lang/StringLatin1", name := "newString", desc := "([BII)Ljava/lang/String;" } : Jvm.MethodName) prog_35_method_47_code (3 : Nat) (Option.some (FieldType.object "java/lang/String"))) ∈ gtbl := gt9 (i := 137) rfl rfl
theorem q_2059 : (Cond.classLink "java/lang/StringLatin1" (1 : Nat) "java/lang/String") ∈ gtbl := gt9 (i := 139) rfl rfl
theorem q_2060 : (Cond.methodLink "java/lang/StringLatin1" (232 : Nat) ({ cls := "java/util/Arrays", name := "copyOfRange", desc := "([BII)[B" } : Jvm.MethodName)) ∈ gtbl := gt9 (i := 140) rfl rfl
theorem q_2061 : (Cond.methodLink "java/lang/StringLatin1" (112 : Nat) ({ cls := "java/lang/String", name := "<init>", desc := "([BB)V" } : Jvm.MethodName)) ∈ gtbl := gt9 (i := 141) rfl rfl
theorem q_2062 : (Cond.instanceMethod ({ cls := "java/lang/String", name := "<init>", desc := "([BB)V" } : Jvm.MethodName)) ∈ gtbl := gt9 (i := 142) rfl rfl
theorem q_2063 : (Cond.code ({ cls := "java/lang/String", name := "<init>", desc := "([BB)V" } : Jvm.MethodName) prog_33_method_151_code (3 : Nat) (Option.none : Option FieldType)) ∈ gtbl := gt9 (i := 143) rfl rfl
theorem q_2064 : (Cond.methodLink "java/lang/String" (689 : Nat) ({ cls := "java/lang/StringUTF16", name := "newString", desc := "([BII)Ljava/lang/String;" } : Jvm.MethodName)) ∈ gtbl := gt9 (i := 144) rfl rfl
theorem q_2065 : (Cond.static ({ cls := "java/lang/StringUTF16", name := "newString", desc := "([BII)Ljava/lang/String;" } : Jvm.MethodName)) ∈ gtbl := gt9 (i := 145) rfl rfl
theorem q_2066 : (Cond.code ({ cls := "java/lang/StringUTF16", name := "newString", desc := "([BII)Ljava/lang/String;" } : Jvm.MethodName) prog_36_method_69_code (5 : Nat) (Option.some (FieldType.object "java/lang/String"))) ∈ gtbl := gt9 (i := 146) rfl rfl
theorem q_2068 : (Cond.fieldLink "java/lang/StringUTF16" (251 : Nat) "java/lang/String" "COMPACT_STRINGS" "Z") ∈ gtbl := gt9 (i := 148) rfl rfl
theorem q_2069 : (Cond.methodLink "java/lang/StringUTF16" (257 : Nat) ({ cls := "java/lang/StringUTF16", name := "compress", desc := "([BII)[B" } : Jvm.MethodName)) ∈ gtbl := gt9 (i := 149) rfl rfl
theorem q_2070 : (Cond.methodLink "java/lang/StringUTF16" (259 : Nat) ({ cls := "java/lang/StringUTF16", name := "coderFromArrayLen", desc := "([BI)B" } : Jvm.MethodName)) ∈ gtbl := gt9 (i := 150) rfl rfl
theorem q_2071 : (Cond.classLink "java/lang/StringUTF16" (3 : Nat) "java/lang/String") ∈ gtbl := gt9 (i := 151) rfl rfl
theorem q_2072 : (Cond.methodLink "java/lang/StringUTF16" (263 : Nat) ({ cls := "java/lang/String", name := "<init>", desc := "([BB)V" } : Jvm.MethodName)) ∈ gtbl := gt9 (i := 152) rfl rfl
theorem q_2073 : (Cond.methodLink "FlatPlanLaw" (490 : Nat) ({ cls := "java/lang/String", name := "substring", desc := "(II)Ljava/lang/String;" } : Jvm.MethodName)) ∈ gtbl := gt9 (i := 153) rfl rfl
theorem q_2074 : (Cond.methodLink "FlatPlanLaw" (503 : Nat) ({ cls := "java/util/ArrayList", name := "remove", desc := "(I)Ljava/lang/Object;" } : Jvm.MethodName)) ∈ gtbl := gt9 (i := 154) rfl rfl
theorem q_2075 : (Cond.instanceMethod ({ cls := "java/util/ArrayList", name := "remove", desc := "(I)Ljava/lang/Object;" } : Jvm.MethodName)) ∈ gtbl := gt9 (i := 155) rfl rfl
theorem q_2076 : (Cond.selects "java/util/ArrayList" ({ cls := "java/util/ArrayList", name := "remove", desc := "(I)Ljava/lang/Object;" } : Jvm.MethodName) ({ cls := "java/util/ArrayList", name := "remove", desc := "(I)Ljava/lang/Object;" } : Jvm.MethodName)) ∈ gtbl := gt9 (i := 156) rfl rfl
theorem q_2077 : (Cond.code ({ cls := "java/util/ArrayList", name := "remove", desc := "(I)Ljava/lang/Object;" } : Jvm.MethodName) prog_43_method_29_code (4 : Nat) (Option.some (FieldType.object "java/lang/Object"))) ∈ gtbl := gt9 (i := 157) rfl rfl
theorem q_2078 : (Cond.methodLink "java/util/ArrayList" (144 : Nat) ({ cls := "java/util/ArrayList", name := "fastRemove", desc := "([Ljava/lang/Object;I)V" } : Jvm.MethodName)) ∈ gtbl := gt9 (i := 158) rfl rfl
theorem q_2080 : (Cond.instanceMethod ({ cls := "java/util/ArrayList", name := "fastRemove", desc := "([Ljava/lang/Object;I)V" } : Jvm.MethodName)) ∈ gtbl := gt9 (i := 160) rfl rfl
theorem q_2081 : (Cond.code ({ cls := "java/util/ArrayList", name := "fastRemove", desc := "([Ljava/lang/Object;I)V" } : Jvm.MethodName) prog_43_method_39_code (4 : Nat) (Option.none : Option FieldType)) ∈ gtbl := gt9 (i := 161) rfl rfl
theorem q_2082 : (Cond.methodLink "FlatPlanLaw" (473 : Nat) ({ cls := "java/util/ArrayList", name := "clear", desc := "()V" } : Jvm.MethodName)) ∈ gtbl := gt9 (i := 162) rfl rfl
theorem q_2083 : (Cond.instanceMethod ({ cls := "java/util/ArrayList", name := "clear", desc := "()V" } : Jvm.MethodName)) ∈ gtbl := gt9 (i := 163) rfl rfl
theorem q_2084 : (Cond.selects "java/util/ArrayList" ({ cls := "java/util/ArrayList", name := "clear", desc := "()V" } : Jvm.MethodName) ({ cls := "java/util/ArrayList", name := "clear", desc := "()V" } : Jvm.MethodName)) ∈ gtbl := gt9 (i := 164) rfl rfl
theorem q_2085 : (Cond.code ({ cls := "java/util/ArrayList", name := "clear", desc := "()V" } : Jvm.MethodName) prog_43_method_40_code (4 : Nat) (Option.none : Option FieldType)) ∈ gtbl := gt9 (i := 165) rfl rfl
theorem q_2121 : (Cond.selects "[Ljava/lang/Object;" ({ cls := "java/lang/Object", name := "getClass", desc := "()Ljava/lang/Class;" } : Jvm.MethodName) ({ cls := "java/lang/Object", name := "getClass", desc := "()Ljava/lang/Class;" } : Jvm.MethodName)) ∈ gtbl := gt9 (i := 201) rfl rfl
theorem qs_0 : Cond.selects "FlatPlan$Plan" ⟨"FlatPlan$Plan", "layOut", "()V"⟩ ⟨"FlatPlan$Plan", "layOut", "()V"⟩ ∈ gtbl := gt_sel (i := 0) rfl rfl
theorem qs_1 : Cond.selects "FlatPlan$Reader" ⟨"FlatPlan$Reader", "nextToken", "()V"⟩ ⟨"FlatPlan$Reader", "nextToken", "()V"⟩ ∈ gtbl := gt_sel (i := 1) rfl rfl
theorem qs_2 : Cond.selects "FlatPlan$Reader" ⟨"FlatPlan$Reader", "isWord", "(Ljava/lang/String;)Z"⟩ ⟨"FlatPlan$Reader", "isWord", "(Ljava/lang/String;)Z"⟩ ∈ gtbl := gt_sel (i := 2) rfl rfl
theorem qs_3 : Cond.selects "FlatPlan$Reader" ⟨"FlatPlan$Reader", "readPlan", "()Z"⟩ ⟨"FlatPlan$Reader", "readPlan", "()Z"⟩ ∈ gtbl := gt_sel (i := 3) rfl rfl
theorem qs_4 : Cond.selects "FlatPlan$Reader" ⟨"FlatPlan$Reader", "readNumber", "(III)Z"⟩ ⟨"FlatPlan$Reader", "readNumber", "(III)Z"⟩ ∈ gtbl := gt_sel (i := 4) rfl rfl
theorem qs_5 : Cond.selects "FlatPlan$Reader" ⟨"FlatPlan$Reader", "fail", "(I)Z"⟩ ⟨"FlatPlan$Reader", "fail", "(I)Z"⟩ ∈ gtbl := gt_sel (i := 5) rfl rfl
theorem qs_6 : Cond.selects "FlatPlan$Reader" ⟨"FlatPlan$Reader", "numberRead", "()I"⟩ ⟨"FlatPlan$Reader", "numberRead", "()I"⟩ ∈ gtbl := gt_sel (i := 6) rfl rfl
theorem qs_7 : Cond.selects "FlatPlan$Reader" ⟨"FlatPlan$Reader", "readSemicolon", "()Z"⟩ ⟨"FlatPlan$Reader", "readSemicolon", "()Z"⟩ ∈ gtbl := gt_sel (i := 7) rfl rfl
theorem qs_8 : Cond.selects "FlatPlan$Reader" ⟨"FlatPlan$Reader", "readStatement", "()Z"⟩ ⟨"FlatPlan$Reader", "readStatement", "()Z"⟩ ∈ gtbl := gt_sel (i := 8) rfl rfl
theorem qs_9 : Cond.selects "FlatPlan$Reader" ⟨"FlatPlan$Reader", "readColor", "()Z"⟩ ⟨"FlatPlan$Reader", "readColor", "()Z"⟩ ∈ gtbl := gt_sel (i := 9) rfl rfl
theorem qs_10 : Cond.selects "FlatPlan$Reader" ⟨"FlatPlan$Reader", "readAd", "()Z"⟩ ⟨"FlatPlan$Reader", "readAd", "()Z"⟩ ∈ gtbl := gt_sel (i := 10) rfl rfl
theorem qs_11 : Cond.selects "FlatPlan$Reader" ⟨"FlatPlan$Reader", "firstIsSize", "()Z"⟩ ⟨"FlatPlan$Reader", "firstIsSize", "()Z"⟩ ∈ gtbl := gt_sel (i := 11) rfl rfl
theorem qs_12 : Cond.selects "FlatPlan$Reader" ⟨"FlatPlan$Reader", "readStory", "()Z"⟩ ⟨"FlatPlan$Reader", "readStory", "()Z"⟩ ∈ gtbl := gt_sel (i := 12) rfl rfl
theorem qs_13 : Cond.selects "FlatPlan$Reader" ⟨"FlatPlan$Reader", "readStandby", "()Z"⟩ ⟨"FlatPlan$Reader", "readStandby", "()Z"⟩ ∈ gtbl := gt_sel (i := 13) rfl rfl
theorem qs_14 : Cond.selects "FlatPlan$Reader" ⟨"FlatPlan$Reader", "readClose", "()Z"⟩ ⟨"FlatPlan$Reader", "readClose", "()Z"⟩ ∈ gtbl := gt_sel (i := 14) rfl rfl
theorem qs_15 : Cond.selects "FlatPlan$Reader" ⟨"FlatPlan$Reader", "readPut", "()Z"⟩ ⟨"FlatPlan$Reader", "readPut", "()Z"⟩ ∈ gtbl := gt_sel (i := 15) rfl rfl
theorem qs_16 : Cond.selects "FlatPlan$Plan" ⟨"FlatPlan$Plan", "lacksColor", "(II)Z"⟩ ⟨"FlatPlan$Plan", "lacksColor", "(II)Z"⟩ ∈ gtbl := gt_sel (i := 16) rfl rfl
theorem qs_17 : Cond.selects "FlatPlan$Plan" ⟨"FlatPlan$Plan", "meetsRival", "(II)Z"⟩ ⟨"FlatPlan$Plan", "meetsRival", "(II)Z"⟩ ∈ gtbl := gt_sel (i := 17) rfl rfl
theorem qs_18 : Cond.selects "FlatPlan$Reader" ⟨"FlatPlan$Reader", "readLay", "()Z"⟩ ⟨"FlatPlan$Reader", "readLay", "()Z"⟩ ∈ gtbl := gt_sel (i := 18) rfl rfl
theorem qs_19 : Cond.selects "FlatPlan$Plan" ⟨"FlatPlan$Plan", "pageReason", "(II)I"⟩ ⟨"FlatPlan$Plan", "pageReason", "(II)I"⟩ ∈ gtbl := gt_sel (i := 19) rfl rfl
theorem qs_20 : Cond.selects "FlatPlan$Searches" ⟨"FlatPlan$Searches", "matchOneMore", "(I)Z"⟩ ⟨"FlatPlan$Searches", "matchOneMore", "(I)Z"⟩ ∈ gtbl := gt_sel (i := 20) rfl rfl
theorem qs_21 : Cond.selects "FlatPlan$Searches" ⟨"FlatPlan$Searches", "mayMatch", "(II)Z"⟩ ⟨"FlatPlan$Searches", "mayMatch", "(II)Z"⟩ ∈ gtbl := gt_sel (i := 21) rfl rfl
theorem qs_22 : Cond.selects "FlatPlan$Searches" ⟨"FlatPlan$Searches", "changePartners", "(I)V"⟩ ⟨"FlatPlan$Searches", "changePartners", "(I)V"⟩ ∈ gtbl := gt_sel (i := 22) rfl rfl
theorem qs_23 : Cond.selects "java/util/ArrayList" ⟨"java/util/ArrayList", "add", "(Ljava/lang/Object;[Ljava/lang/Object;I)V"⟩ ⟨"java/util/ArrayList", "add", "(Ljava/lang/Object;[Ljava/lang/Object;I)V"⟩ ∈ gtbl := gt_sel (i := 23) rfl rfl
theorem qs_24 : Cond.selects "java/util/ArrayList" ⟨"java/util/ArrayList", "grow", "()[Ljava/lang/Object;"⟩ ⟨"java/util/ArrayList", "grow", "()[Ljava/lang/Object;"⟩ ∈ gtbl := gt_sel (i := 24) rfl rfl
theorem qs_25 : Cond.selects "java/util/ArrayList" ⟨"java/util/ArrayList", "grow", "(I)[Ljava/lang/Object;"⟩ ⟨"java/util/ArrayList", "grow", "(I)[Ljava/lang/Object;"⟩ ∈ gtbl := gt_sel (i := 25) rfl rfl
theorem qs_26 : Cond.selects "FlatPlan" ⟨"FlatPlan", "needAd", "(I)V"⟩ ⟨"FlatPlan", "needAd", "(I)V"⟩ ∈ gtbl := gt_sel (i := 26) rfl rfl
theorem qs_27 : Cond.selects "java/lang/Throwable" ⟨"java/lang/Throwable", "fillInStackTrace", "(I)Ljava/lang/Throwable;"⟩ ⟨"java/lang/Throwable", "fillInStackTrace", "(I)Ljava/lang/Throwable;"⟩ ∈ gtbl := gt_sel (i := 27) rfl rfl
theorem qs_28 : Cond.selects "FlatPlan" ⟨"FlatPlan", "needStory", "(I)V"⟩ ⟨"FlatPlan", "needStory", "(I)V"⟩ ∈ gtbl := gt_sel (i := 28) rfl rfl
theorem qs_29 : Cond.selects "FlatPlan" ⟨"FlatPlan", "needStandby", "(I)V"⟩ ⟨"FlatPlan", "needStandby", "(I)V"⟩ ∈ gtbl := gt_sel (i := 29) rfl rfl
theorem qs_30 : Cond.selects "FlatPlan" ⟨"FlatPlan", "needPage", "(I)V"⟩ ⟨"FlatPlan", "needPage", "(I)V"⟩ ∈ gtbl := gt_sel (i := 30) rfl rfl
theorem qs_31 : Cond.selects "FlatPlan" ⟨"FlatPlan", "needForm", "(I)V"⟩ ⟨"FlatPlan", "needForm", "(I)V"⟩ ∈ gtbl := gt_sel (i := 31) rfl rfl
theorem qs_32 : Cond.selects "FlatPlan$Searches" ⟨"FlatPlan$Searches", "leftOnSet", "(I)I"⟩ ⟨"FlatPlan$Searches", "leftOnSet", "(I)I"⟩ ∈ gtbl := gt_sel (i := 32) rfl rfl
theorem qs_33 : Cond.selects "FlatPlan$Searches" ⟨"FlatPlan$Searches", "rivalPricesBeside", "(II)I"⟩ ⟨"FlatPlan$Searches", "rivalPricesBeside", "(II)I"⟩ ∈ gtbl := gt_sel (i := 33) rfl rfl
theorem qs_34 : Cond.selects "FlatPlan$Searches" ⟨"FlatPlan$Searches", "pricesForRoom", "(II)I"⟩ ⟨"FlatPlan$Searches", "pricesForRoom", "(II)I"⟩ ∈ gtbl := gt_sel (i := 34) rfl rfl
theorem qs_35 : Cond.selects "FlatPlan$Searches" ⟨"FlatPlan$Searches", "removedPrices", "(IIII)I"⟩ ⟨"FlatPlan$Searches", "removedPrices", "(IIII)I"⟩ ∈ gtbl := gt_sel (i := 35) rfl rfl
theorem qs_36 : Cond.selects "java/util/ArrayList" ⟨"java/util/ArrayList", "rangeCheckForAdd", "(I)V"⟩ ⟨"java/util/ArrayList", "rangeCheckForAdd", "(I)V"⟩ ∈ gtbl := gt_sel (i := 36) rfl rfl
theorem qs_37 : Cond.selects "java/util/ArrayList" ⟨"java/util/ArrayList", "outOfBoundsMsg", "(I)Ljava/lang/String;"⟩ ⟨"java/util/ArrayList", "outOfBoundsMsg", "(I)Ljava/lang/String;"⟩ ∈ gtbl := gt_sel (i := 37) rfl rfl
theorem qs_38 : Cond.selects "FlatPlan$Searches" ⟨"FlatPlan$Searches", "nextLateRank", "(I)I"⟩ ⟨"FlatPlan$Searches", "nextLateRank", "(I)I"⟩ ∈ gtbl := gt_sel (i := 38) rfl rfl
theorem qs_39 : Cond.selects "FlatPlan$Searches" ⟨"FlatPlan$Searches", "adIsOpen", "(I)Z"⟩ ⟨"FlatPlan$Searches", "adIsOpen", "(I)Z"⟩ ∈ gtbl := gt_sel (i := 39) rfl rfl
theorem qs_40 : Cond.selects "FlatPlan$Plan" ⟨"FlatPlan$Plan", "storyIsOnFormThat", "(II)Z"⟩ ⟨"FlatPlan$Plan", "storyIsOnFormThat", "(II)Z"⟩ ∈ gtbl := gt_sel (i := 40) rfl rfl
theorem qs_41 : Cond.selects "FlatPlan$Searches" ⟨"FlatPlan$Searches", "countColorPages", "()V"⟩ ⟨"FlatPlan$Searches", "countColorPages", "()V"⟩ ∈ gtbl := gt_sel (i := 41) rfl rfl
theorem qs_42 : Cond.selects "FlatPlan$Searches" ⟨"FlatPlan$Searches", "fewerColorForms", "(II)I"⟩ ⟨"FlatPlan$Searches", "fewerColorForms", "(II)I"⟩ ∈ gtbl := gt_sel (i := 42) rfl rfl
theorem qs_43 : Cond.selects "FlatPlan$Plan" ⟨"FlatPlan$Plan", "exchangedReason", "(III)I"⟩ ⟨"FlatPlan$Plan", "exchangedReason", "(III)I"⟩ ∈ gtbl := gt_sel (i := 43) rfl rfl
theorem qs_44 : Cond.selects "FlatPlan$Plan" ⟨"FlatPlan$Plan", "closeForm", "(I)V"⟩ ⟨"FlatPlan$Plan", "closeForm", "(I)V"⟩ ∈ gtbl := gt_sel (i := 44) rfl rfl
theorem qs_45 : Cond.selects "FlatPlan$Plan" ⟨"FlatPlan$Plan", "replaceLateAds", "(I)V"⟩ ⟨"FlatPlan$Plan", "replaceLateAds", "(I)V"⟩ ∈ gtbl := gt_sel (i := 45) rfl rfl
theorem qs_46 : Cond.selects "FlatPlan$Searches" ⟨"FlatPlan$Searches", "insertAd", "(II)V"⟩ ⟨"FlatPlan$Searches", "insertAd", "(II)V"⟩ ∈ gtbl := gt_sel (i := 46) rfl rfl
theorem qs_47 : Cond.selects "FlatPlan$Searches" ⟨"FlatPlan$Searches", "comesBefore", "(II)Z"⟩ ⟨"FlatPlan$Searches", "comesBefore", "(II)Z"⟩ ∈ gtbl := gt_sel (i := 47) rfl rfl
theorem qs_48 : Cond.selects "FlatPlan$Searches" ⟨"FlatPlan$Searches", "layFirst", "(I)Z"⟩ ⟨"FlatPlan$Searches", "layFirst", "(I)Z"⟩ ∈ gtbl := gt_sel (i := 48) rfl rfl
theorem qs_49 : Cond.selects "java/util/ArrayList" ⟨"java/util/ArrayList", "fastRemove", "([Ljava/lang/Object;I)V"⟩ ⟨"java/util/ArrayList", "fastRemove", "([Ljava/lang/Object;I)V"⟩ ∈ gtbl := gt_sel (i := 49) rfl rfl
