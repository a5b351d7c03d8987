/-! LINKS of the law and of the JDK -/
theorem ne2_AL : "java/util/ArrayList" ≠ "java/lang/invoke/MethodHandle" ∧ "java/util/ArrayList" ≠ "java/lang/invoke/VarHandle" := by decide
theorem pe_0 : (parseMethodDescriptor "()V").map (fun d => d.parameters.length) = some 0 := by decide +kernel
theorem LE_AL_init : LB M_AL_init 0 := ⟨q_17, q_742, ne2_AL, pe_0⟩
theorem Q_LP_20 : LI "FlatPlanLaw$Plan" 20 M_AL_init 0 := ⟨LE_AL_init, q_740, q_741, rfl, rfl⟩
theorem ne2_LP : "FlatPlanLaw$Plan" ≠ "java/lang/invoke/MethodHandle" ∧ "FlatPlanLaw$Plan" ≠ "java/lang/invoke/VarHandle" := by decide
theorem LE_LP_init : LB M_LP_init 0 := ⟨q_14, q_736, ne2_LP, pe_0⟩
theorem Q_LP_42 : LI "FlatPlanLaw$Plan" 42 M_LP_init 0 := ⟨LE_LP_init, q_814, q_735, rfl, rfl⟩
theorem pe_1 : (parseMethodDescriptor "()Ljava/util/Iterator;").map (fun d => d.parameters.length) = some 0 := by decide +kernel
theorem LE_AL_iterator : LB M_AL_iterator 0 := ⟨q_17, q_818, ne2_AL, pe_1⟩
theorem Q_LP_49 : LW "FlatPlanLaw$Plan" 49 M_AL_iterator 0 := ⟨LE_AL_iterator, q_815, q_816⟩
theorem sx_AL_iterator : SelX "java/util/ArrayList" ⟨"java/util/ArrayList", "iterator", "()Ljava/util/Iterator;"⟩ := .inl q_817
theorem ne2_Itr : "java/util/ArrayList$Itr" ≠ "java/lang/invoke/MethodHandle" ∧ "java/util/ArrayList$Itr" ≠ "java/lang/invoke/VarHandle" := by decide
theorem pe_2 : (parseMethodDescriptor "()Z").map (fun d => d.parameters.length) = some 0 := by decide +kernel
theorem LE_Itr_hasNext : LB M_Itr_hasNext 0 := ⟨q_36, q_847, ne2_Itr, pe_2⟩
theorem pe_3 : (parseMethodDescriptor "()Ljava/lang/Object;").map (fun d => d.parameters.length) = some 0 := by decide +kernel
theorem LE_Itr_next : LB M_Itr_next 0 := ⟨q_36, q_856, ne2_Itr, pe_3⟩
theorem ne2_LI : "FlatPlanLaw$Item" ≠ "java/lang/invoke/MethodHandle" ∧ "FlatPlanLaw$Item" ≠ "java/lang/invoke/VarHandle" := by decide
theorem pe_4 : (parseMethodDescriptor "()LFlatPlanLaw$Item;").map (fun d => d.parameters.length) = some 0 := by decide +kernel
theorem LE_LI_copy : LB M_LI_copy 0 := ⟨q_38, q_865, ne2_LI, pe_4⟩
theorem Q_LP_65 : LW "FlatPlanLaw$Plan" 65 M_LI_copy 0 := ⟨LE_LI_copy, q_862, q_863⟩
theorem sx_LI_copy : SelX "FlatPlanLaw$Item" ⟨"FlatPlanLaw$Item", "copy", "()LFlatPlanLaw$Item;"⟩ := .inl q_864
theorem pe_5 : (parseMethodDescriptor "(Ljava/lang/Object;)Z").map (fun d => d.parameters.length) = some 1 := by decide +kernel
theorem LE_AL_add : LB M_AL_add 1 := ⟨q_17, q_911, ne2_AL, pe_5⟩
theorem Q_LP_69 : LW "FlatPlanLaw$Plan" 69 M_AL_add 1 := ⟨LE_AL_add, q_908, q_909⟩
theorem sx_AL_add : SelX "java/util/ArrayList" ⟨"java/util/ArrayList", "add", "(Ljava/lang/Object;)Z"⟩ := .inl q_910
theorem LE_LI_init : LB M_LI_init 0 := ⟨q_38, q_870, ne2_LI, pe_0⟩
theorem Q_LI_9 : LI "FlatPlanLaw$Item" 9 M_LI_init 0 := ⟨LE_LI_init, q_868, q_869, rfl, rfl⟩
theorem pe_6 : (parseMethodDescriptor "(I)I").map (fun d => d.parameters.length) = some 1 := by decide +kernel
theorem LE_FP_truncateInput : LB M_FP_truncateInput 1 := ⟨q_1, q_995, ne_FP, pe_6⟩
theorem Q_Law_8 : LW "FlatPlanLaw" 8 M_FP_truncateInput 1 := ⟨LE_FP_truncateInput, q_992, q_993⟩
theorem sx_FP_truncateInput : SelX "FlatPlan" ⟨"FlatPlan", "truncateInput", "(I)I"⟩ := .inl q_994
theorem pe_7 : (parseMethodDescriptor "()I").map (fun d => d.parameters.length) = some 0 := by decide +kernel
theorem LE_String_length : LB M_String_length 0 := ⟨q_25, q_483, ne_String, pe_7⟩
theorem Q_Law_14 : LW "FlatPlanLaw" 14 M_String_length 0 := ⟨LE_String_length, q_996, q_481⟩
theorem sx_String_length : SelX "java/lang/String" ⟨"java/lang/String", "length", "()I"⟩ := .inl q_482
theorem pe_8 : (parseMethodDescriptor "(I)C").map (fun d => d.parameters.length) = some 1 := by decide +kernel
theorem LE_String_charAt : LB M_String_charAt 1 := ⟨q_25, q_493, ne_String, pe_8⟩
theorem Q_Law_20 : LW "FlatPlanLaw" 20 M_String_charAt 1 := ⟨LE_String_charAt, q_997, q_491⟩
theorem sx_String_charAt : SelX "java/lang/String" ⟨"java/lang/String", "charAt", "(I)C"⟩ := .inl q_492
theorem pe_9 : (parseMethodDescriptor "(IIIII)I").map (fun d => d.parameters.length) = some 5 := by decide +kernel
theorem LE_FP_appendInput : LB M_FP_appendInput 5 := ⟨q_1, q_1001, ne_FP, pe_9⟩
theorem Q_Law_24 : LW "FlatPlanLaw" 24 M_FP_appendInput 5 := ⟨LE_FP_appendInput, q_998, q_999⟩
theorem sx_FP_appendInput : SelX "FlatPlan" ⟨"FlatPlan", "appendInput", "(IIIII)I"⟩ := .inl q_1000
theorem LE_LP_pages : LB M_LP_pages 0 := ⟨q_14, q_1016, ne2_LP, pe_7⟩
theorem Q_Law_42 : LW "FlatPlanLaw" 42 M_LP_pages 0 := ⟨LE_LP_pages, q_1013, q_1014⟩
theorem sx_LP_pages : SelX "FlatPlanLaw$Plan" ⟨"FlatPlanLaw$Plan", "pages", "()I"⟩ := .inl q_1015
theorem LE_AL_size : LB M_AL_size 0 := ⟨q_17, q_1020, ne2_AL, pe_7⟩
theorem Q_Law_55 : LW "FlatPlanLaw" 55 M_AL_size 0 := ⟨LE_AL_size, q_1017, q_1018⟩
theorem sx_AL_size : SelX "java/util/ArrayList" ⟨"java/util/ArrayList", "size", "()I"⟩ := .inl q_1019
theorem pe_10 : (parseMethodDescriptor "(I)Ljava/lang/Object;").map (fun d => d.parameters.length) = some 1 := by decide +kernel
theorem LE_AL_get : LB M_AL_get 1 := ⟨q_17, q_1024, ne2_AL, pe_10⟩
theorem Q_Law_69 : LW "FlatPlanLaw" 69 M_AL_get 1 := ⟨LE_AL_get, q_1021, q_1022⟩
theorem sx_AL_get : SelX "java/util/ArrayList" ⟨"java/util/ArrayList", "get", "(I)Ljava/lang/Object;"⟩ := .inl q_1023
theorem LE_Law_told : LB M_Law_told 1 := ⟨q_0, q_1036, ne_Law, pe_6⟩
theorem Q_Law_95 : LQ "FlatPlanLaw" 95 M_Law_told 1 := ⟨LE_Law_told, q_1034, q_1035⟩
theorem pe_11 : (parseMethodDescriptor "(II)I").map (fun d => d.parameters.length) = some 2 := by decide +kernel
theorem LE_FP_ad : LB M_FP_ad 2 := ⟨q_1, q_1040, ne_FP, pe_11⟩
theorem Q_Law_98 : LW "FlatPlanLaw" 98 M_FP_ad 2 := ⟨LE_FP_ad, q_1037, q_1038⟩
theorem sx_FP_ad : SelX "FlatPlan" ⟨"FlatPlan", "ad", "(II)I"⟩ := .inl q_1039
theorem LE_FP_story : LB M_FP_story 2 := ⟨q_1, q_1123, ne_FP, pe_11⟩
theorem Q_Law_101 : LW "FlatPlanLaw" 101 M_FP_story 2 := ⟨LE_FP_story, q_1120, q_1121⟩
theorem sx_FP_story : SelX "FlatPlan" ⟨"FlatPlan", "story", "(II)I"⟩ := .inl q_1122
theorem LE_FP_standby : LB M_FP_standby 2 := ⟨q_1, q_1132, ne_FP, pe_11⟩
theorem Q_Law_104 : LW "FlatPlanLaw" 104 M_FP_standby 2 := ⟨LE_FP_standby, q_1129, q_1130⟩
theorem sx_FP_standby : SelX "FlatPlan" ⟨"FlatPlan", "standby", "(II)I"⟩ := .inl q_1131
theorem LE_FP_count : LB M_FP_count 1 := ⟨q_1, q_1141, ne_FP, pe_6⟩
theorem Q_Law_113 : LW "FlatPlanLaw" 113 M_FP_count 1 := ⟨LE_FP_count, q_1138, q_1139⟩
theorem sx_FP_count : SelX "FlatPlan" ⟨"FlatPlan", "count", "(I)I"⟩ := .inl q_1140
theorem LE_FP_digest : LB M_FP_digest 0 := ⟨q_1, q_1148, ne_FP, pe_7⟩
theorem Q_Law_116 : LW "FlatPlanLaw" 116 M_FP_digest 0 := ⟨LE_FP_digest, q_1145, q_1146⟩
theorem sx_FP_digest : SelX "FlatPlan" ⟨"FlatPlan", "digest", "()I"⟩ := .inl q_1147
theorem LE_FP_revenue : LB M_FP_revenue 0 := ⟨q_1, q_1152, ne_FP, pe_7⟩
theorem Q_Law_119 : LW "FlatPlanLaw" 119 M_FP_revenue 0 := ⟨LE_FP_revenue, q_1149, q_1150⟩
theorem sx_FP_revenue : SelX "FlatPlan" ⟨"FlatPlan", "revenue", "()I"⟩ := .inl q_1151
theorem LE_FP_lost : LB M_FP_lost 0 := ⟨q_1, q_1156, ne_FP, pe_7⟩
theorem Q_Law_122 : LW "FlatPlanLaw" 122 M_FP_lost 0 := ⟨LE_FP_lost, q_1153, q_1154⟩
theorem sx_FP_lost : SelX "FlatPlan" ⟨"FlatPlan", "lost", "()I"⟩ := .inl q_1155
theorem LE_FP_undoCount : LB M_FP_undoCount 0 := ⟨q_1, q_1160, ne_FP, pe_7⟩
theorem Q_Law_127 : LW "FlatPlanLaw" 127 M_FP_undoCount 0 := ⟨LE_FP_undoCount, q_1157, q_1158⟩
theorem sx_FP_undoCount : SelX "FlatPlan" ⟨"FlatPlan", "undoCount", "()I"⟩ := .inl q_1159
theorem pe_12 : (parseMethodDescriptor "(LFlatPlan;I)I").map (fun d => d.parameters.length) = some 2 := by decide +kernel
theorem Q_Law_130 : LH "FlatPlanLaw" 130 M_Law_thrownByPage 2 := ⟨q_0, q_1163, ne_Law, pe_12, q_1161, q_1162⟩
theorem pe_13 : (parseMethodDescriptor "(LFlatPlan;)I").map (fun d => d.parameters.length) = some 1 := by decide +kernel
theorem Q_Law_134 : LH "FlatPlanLaw" 134 M_Law_thrownByPrice 1 := ⟨q_0, q_1200, ne_Law, pe_13, q_1198, q_1199⟩
theorem pe_14 : (parseMethodDescriptor "()D").map (fun d => d.parameters.length) = some 0 := by decide +kernel
theorem LE_FP_quarterPrice : LB M_FP_quarterPrice 0 := ⟨q_1, q_1218, ne_FP, pe_14⟩
theorem Q_Law_34 : LW "FlatPlanLaw" 34 M_FP_quarterPrice 0 := ⟨LE_FP_quarterPrice, q_1215, q_1216⟩
theorem sx_FP_quarterPrice : SelX "FlatPlan" ⟨"FlatPlan", "quarterPrice", "()D"⟩ := .inl q_1217
theorem pe_15 : (parseMethodDescriptor "(Ljava/util/ArrayList;I)Ljava/util/ArrayList;").map (fun d => d.parameters.length) = some 2 := by decide +kernel
theorem LE_LP_on : LB M_LP_on 2 := ⟨q_14, q_1229, ne2_LP, pe_15⟩
theorem Q_Law_138 : LW "FlatPlanLaw" 138 M_LP_on 2 := ⟨LE_LP_on, q_1226, q_1227⟩
theorem sx_LP_on : SelX "FlatPlanLaw$Plan" ⟨"FlatPlanLaw$Plan", "on", "(Ljava/util/ArrayList;I)Ljava/util/ArrayList;"⟩ := .inl q_1228
theorem LE_LP_left : LB M_LP_left 1 := ⟨q_14, q_1255, ne2_LP, pe_6⟩
theorem Q_Law_142 : LW "FlatPlanLaw" 142 M_LP_left 1 := ⟨LE_LP_left, q_1252, q_1253⟩
theorem sx_LP_left : SelX "FlatPlanLaw$Plan" ⟨"FlatPlanLaw$Plan", "left", "(I)I"⟩ := .inl q_1254
theorem LE_LP_form : LB M_LP_form 1 := ⟨q_14, q_1263, ne2_LP, pe_6⟩
theorem Q_Law_148 : LW "FlatPlanLaw" 148 M_LP_form 1 := ⟨LE_LP_form, q_1260, q_1261⟩
theorem sx_LP_form : SelX "FlatPlanLaw$Plan" ⟨"FlatPlanLaw$Plan", "form", "(I)I"⟩ := .inl q_1262
theorem LE_LP_story : LB M_LP_story 1 := ⟨q_14, q_1259, ne2_LP, pe_6⟩
theorem Q_Law_151 : LW "FlatPlanLaw" 151 M_LP_story 1 := ⟨LE_LP_story, q_1264, q_1257⟩
theorem sx_LP_story : SelX "FlatPlanLaw$Plan" ⟨"FlatPlanLaw$Plan", "story", "(I)I"⟩ := .inl q_1258
theorem LE_FP_page : LB M_FP_page 2 := ⟨q_1, q_1188, ne_FP, pe_11⟩
theorem Q_Law_28 : LW "FlatPlanLaw" 28 M_FP_page 2 := ⟨LE_FP_page, q_1185, q_1186⟩
theorem sx_FP_page : SelX "FlatPlan" ⟨"FlatPlan", "page", "(II)I"⟩ := .inl q_1187
theorem LE_FP_adOn : LB M_FP_adOn 2 := ⟨q_1, q_1268, ne_FP, pe_11⟩
theorem Q_Law_153 : LW "FlatPlanLaw" 153 M_FP_adOn 2 := ⟨LE_FP_adOn, q_1265, q_1266⟩
theorem sx_FP_adOn : SelX "FlatPlan" ⟨"FlatPlan", "adOn", "(II)I"⟩ := .inl q_1267
theorem LE_Integer_intValue : LB M_Integer_intValue 0 := ⟨q_28, q_1273, ne_Integer, pe_7⟩
theorem Q_Law_158 : LW "FlatPlanLaw" 158 M_Integer_intValue 0 := ⟨LE_Integer_intValue, q_1270, q_1271⟩
theorem sx_Integer_intValue : SelX "java/lang/Integer" ⟨"java/lang/Integer", "intValue", "()I"⟩ := .inl q_1272
theorem ne2_SB : "java/lang/StringBuilder" ≠ "java/lang/invoke/MethodHandle" ∧ "java/lang/StringBuilder" ≠ "java/lang/invoke/VarHandle" := by decide
theorem LE_SB_init : LB M_SB_init 0 := ⟨q_33, q_1279, ne2_SB, pe_0⟩
theorem Q_Law_165 : LI "FlatPlanLaw" 165 M_SB_init 0 := ⟨LE_SB_init, q_1277, q_1278, rfl, rfl⟩
theorem pe_16 : (parseMethodDescriptor "(Ljava/lang/String;)Ljava/lang/StringBuilder;").map (fun d => d.parameters.length) = some 1 := by decide +kernel
theorem LE_SB_append : LB M_SB_append 1 := ⟨q_33, q_1309, ne2_SB, pe_16⟩
theorem Q_Law_168 : LW "FlatPlanLaw" 168 M_SB_append 1 := ⟨LE_SB_append, q_1306, q_1307⟩
theorem sx_SB_append : SelX "java/lang/StringBuilder" ⟨"java/lang/StringBuilder", "append", "(Ljava/lang/String;)Ljava/lang/StringBuilder;"⟩ := .inl q_1308
theorem pe_17 : (parseMethodDescriptor "(I)Ljava/lang/StringBuilder;").map (fun d => d.parameters.length) = some 1 := by decide +kernel
theorem LE_SB_append2 : LB M_SB_append2 1 := ⟨q_33, q_1393, ne2_SB, pe_17⟩
theorem Q_Law_172 : LW "FlatPlanLaw" 172 M_SB_append2 1 := ⟨LE_SB_append2, q_1390, q_1391⟩
theorem sx_SB_append2 : SelX "java/lang/StringBuilder" ⟨"java/lang/StringBuilder", "append", "(I)Ljava/lang/StringBuilder;"⟩ := .inl q_1392
theorem pe_18 : (parseMethodDescriptor "()Ljava/lang/String;").map (fun d => d.parameters.length) = some 0 := by decide +kernel
theorem LE_SB_toString : LB M_SB_toString 0 := ⟨q_33, q_1418, ne2_SB, pe_18⟩
theorem Q_Law_175 : LW "FlatPlanLaw" 175 M_SB_toString 0 := ⟨LE_SB_toString, q_1415, q_1416⟩
theorem sx_SB_toString : SelX "java/lang/StringBuilder" ⟨"java/lang/StringBuilder", "toString", "()Ljava/lang/String;"⟩ := .inl q_1417
theorem Q_Law_179 : LW "FlatPlanLaw" 179 M_AL_iterator 0 := ⟨LE_AL_iterator, q_1467, q_816⟩
theorem LE_FP_describe : LB M_FP_describe 1 := ⟨q_1, q_1478, ne_FP, pe_6⟩
theorem Q_Law_199 : LW "FlatPlanLaw" 199 M_FP_describe 1 := ⟨LE_FP_describe, q_1475, q_1476⟩
theorem sx_FP_describe : SelX "FlatPlan" ⟨"FlatPlan", "describe", "(I)I"⟩ := .inl q_1477
theorem LE_FP_describedByte : LB M_FP_describedByte 1 := ⟨q_1, q_721, ne_FP, pe_6⟩
theorem Q_Law_202 : LW "FlatPlanLaw" 202 M_FP_describedByte 1 := ⟨LE_FP_describedByte, q_718, q_719⟩
theorem sx_FP_describedByte : SelX "FlatPlan" ⟨"FlatPlan", "describedByte", "(I)I"⟩ := .inl q_720
theorem LE_FP_emptiest : LB M_FP_emptiest 1 := ⟨q_1, q_1486, ne_FP, pe_6⟩
theorem Q_Law_205 : LW "FlatPlanLaw" 205 M_FP_emptiest 1 := ⟨LE_FP_emptiest, q_1483, q_1484⟩
theorem sx_FP_emptiest : SelX "FlatPlan" ⟨"FlatPlan", "emptiest", "(I)I"⟩ := .inl q_1485
theorem LE_FP_fill : LB M_FP_fill 0 := ⟨q_1, q_1490, ne_FP, pe_14⟩
theorem Q_Law_208 : LW "FlatPlanLaw" 208 M_FP_fill 0 := ⟨LE_FP_fill, q_1487, q_1488⟩
theorem sx_FP_fill : SelX "FlatPlan" ⟨"FlatPlan", "fill", "()D"⟩ := .inl q_1489
theorem pe_19 : (parseMethodDescriptor "(LFlatPlan;LFlatPlanLaw$Plan;)Z").map (fun d => d.parameters.length) = some 2 := by decide +kernel
theorem LE_Law_runs : LB M_Law_runs 2 := ⟨q_0, q_1493, ne_Law, pe_19⟩
theorem Q_Law_211 : LQ "FlatPlanLaw" 211 M_Law_runs 2 := ⟨LE_Law_runs, q_1491, q_1492⟩
theorem Q_LP_83 : LW "FlatPlanLaw$Plan" 83 M_AL_size 0 := ⟨LE_AL_size, q_1230, q_1018⟩
theorem Q_LP_87 : LW "FlatPlanLaw$Plan" 87 M_AL_get 1 := ⟨LE_AL_get, q_1231, q_1022⟩
theorem pe_20 : (parseMethodDescriptor "(I)Ljava/lang/Integer;").map (fun d => d.parameters.length) = some 1 := by decide +kernel
theorem LE_Integer_valueOf : LB M_Integer_valueOf 1 := ⟨q_28, q_1234, ne_Integer, pe_20⟩
theorem Q_LP_96 : LQ "FlatPlanLaw$Plan" 96 M_Integer_valueOf 1 := ⟨LE_Integer_valueOf, q_1232, q_1233⟩
theorem Q_LP_102 : LW "FlatPlanLaw$Plan" 102 M_LP_story 1 := ⟨LE_LP_story, q_1256, q_1257⟩
theorem LE_FP_emptyRun : LB M_FP_emptyRun 1 := ⟨q_1, q_1497, ne_FP, pe_6⟩
theorem Q_Law_215 : LW "FlatPlanLaw" 215 M_FP_emptyRun 1 := ⟨LE_FP_emptyRun, q_1494, q_1495⟩
theorem sx_FP_emptyRun : SelX "FlatPlan" ⟨"FlatPlan", "emptyRun", "(I)I"⟩ := .inl q_1496
theorem LE_FP_pageOf : LB M_FP_pageOf 2 := ⟨q_1, q_1520, ne_FP, pe_11⟩
theorem Q_Law_218 : LW "FlatPlanLaw" 218 M_FP_pageOf 2 := ⟨LE_FP_pageOf, q_1517, q_1518⟩
theorem sx_FP_pageOf : SelX "FlatPlan" ⟨"FlatPlan", "pageOf", "(II)I"⟩ := .inl q_1519
theorem LE_LP_late : LB M_LP_late 1 := ⟨q_14, q_1529, ne2_LP, pe_6⟩
theorem Q_Law_225 : LW "FlatPlanLaw" 225 M_LP_late 1 := ⟨LE_LP_late, q_1526, q_1527⟩
theorem sx_LP_late : SelX "FlatPlanLaw$Plan" ⟨"FlatPlanLaw$Plan", "late", "(I)I"⟩ := .inl q_1528
theorem pe_21 : (parseMethodDescriptor "(I)Z").map (fun d => d.parameters.length) = some 1 := by decide +kernel
theorem LE_LP_hasColor : LB M_LP_hasColor 1 := ⟨q_14, q_1538, ne2_LP, pe_21⟩
theorem Q_Law_228 : LW "FlatPlanLaw" 228 M_LP_hasColor 1 := ⟨LE_LP_hasColor, q_1535, q_1536⟩
theorem sx_LP_hasColor : SelX "FlatPlanLaw$Plan" ⟨"FlatPlanLaw$Plan", "hasColor", "(I)Z"⟩ := .inl q_1537
theorem LE_FP_form : LB M_FP_form 2 := ⟨q_1, q_1542, ne_FP, pe_11⟩
theorem Q_Law_232 : LW "FlatPlanLaw" 232 M_FP_form 2 := ⟨LE_FP_form, q_1539, q_1540⟩
theorem sx_FP_form : SelX "FlatPlan" ⟨"FlatPlan", "form", "(II)I"⟩ := .inl q_1541
theorem LE_FP_revenueOf : LB M_FP_revenueOf 1 := ⟨q_1, q_1571, ne_FP, pe_6⟩
theorem Q_Law_234 : LW "FlatPlanLaw" 234 M_FP_revenueOf 1 := ⟨LE_FP_revenueOf, q_1568, q_1569⟩
theorem sx_FP_revenueOf : SelX "FlatPlan" ⟨"FlatPlan", "revenueOf", "(I)I"⟩ := .inl q_1570
theorem LE_Integer_bitCount : LB M_Integer_bitCount 1 := ⟨q_28, q_1575, ne_Integer, pe_6⟩
theorem Q_Law_237 : LQ "FlatPlanLaw" 237 M_Integer_bitCount 1 := ⟨LE_Integer_bitCount, q_1573, q_1574⟩
theorem LE_FP_bestColor : LB M_FP_bestColor 1 := ⟨q_1, q_1582, ne_FP, pe_6⟩
theorem Q_Law_240 : LW "FlatPlanLaw" 240 M_FP_bestColor 1 := ⟨LE_FP_bestColor, q_1579, q_1580⟩
theorem sx_FP_bestColor : SelX "FlatPlan" ⟨"FlatPlan", "bestColor", "(I)I"⟩ := .inl q_1581
theorem pe_22 : (parseMethodDescriptor "()LFlatPlanLaw$Plan;").map (fun d => d.parameters.length) = some 0 := by decide +kernel
theorem LE_LP_copy : LB M_LP_copy 0 := ⟨q_14, q_812, ne2_LP, pe_22⟩
theorem Q_Law_243 : LW "FlatPlanLaw" 243 M_LP_copy 0 := ⟨LE_LP_copy, q_809, q_810⟩
theorem sx_LP_copy : SelX "FlatPlanLaw$Plan" ⟨"FlatPlanLaw$Plan", "copy", "()LFlatPlanLaw$Plan;"⟩ := .inl q_811
theorem LE_LP_pass : LB M_LP_pass 1 := ⟨q_14, q_1598, ne2_LP, pe_6⟩
theorem Q_Law_252 : LW "FlatPlanLaw" 252 M_LP_pass 1 := ⟨LE_LP_pass, q_1595, q_1596⟩
theorem sx_LP_pass : SelX "FlatPlanLaw$Plan" ⟨"FlatPlanLaw$Plan", "pass", "(I)I"⟩ := .inl q_1597
theorem LE_FP_nextClosing : LB M_FP_nextClosing 0 := ⟨q_1, q_1610, ne_FP, pe_7⟩
theorem Q_Law_255 : LW "FlatPlanLaw" 255 M_FP_nextClosing 0 := ⟨LE_FP_nextClosing, q_1607, q_1608⟩
theorem sx_FP_nextClosing : SelX "FlatPlan" ⟨"FlatPlan", "nextClosing", "()I"⟩ := .inl q_1609
theorem LE_FP_endangered : LB M_FP_endangered 0 := ⟨q_1, q_1618, ne_FP, pe_7⟩
theorem Q_Law_258 : LW "FlatPlanLaw" 258 M_FP_endangered 0 := ⟨LE_FP_endangered, q_1615, q_1616⟩
theorem sx_FP_endangered : SelX "FlatPlan" ⟨"FlatPlan", "endangered", "()I"⟩ := .inl q_1617
theorem Q_LP_79 : LW "FlatPlanLaw$Plan" 79 M_LP_form 1 := ⟨LE_LP_form, q_1530, q_1261⟩
theorem pe_23 : (parseMethodDescriptor "(LFlatPlanLaw$Item;I)Z").map (fun d => d.parameters.length) = some 2 := by decide +kernel
theorem LE_LP_touches : LB M_LP_touches 2 := ⟨q_14, q_1534, ne2_LP, pe_23⟩
theorem Q_LP_137 : LW "FlatPlanLaw$Plan" 137 M_LP_touches 2 := ⟨LE_LP_touches, q_1531, q_1532⟩
theorem sx_LP_touches : SelX "FlatPlanLaw$Plan" ⟨"FlatPlanLaw$Plan", "touches", "(LFlatPlanLaw$Item;I)Z"⟩ := .inl q_1533
theorem pe_24 : (parseMethodDescriptor "(I)V").map (fun d => d.parameters.length) = some 1 := by decide +kernel
theorem LE_LP_close : LB M_LP_close 1 := ⟨q_14, q_1602, ne2_LP, pe_24⟩
theorem Q_LP_156 : LW "FlatPlanLaw$Plan" 156 M_LP_close 1 := ⟨LE_LP_close, q_1599, q_1600⟩
theorem sx_LP_close : SelX "FlatPlanLaw$Plan" ⟨"FlatPlanLaw$Plan", "close", "(I)V"⟩ := .inl q_1601
theorem Q_LP_111 : LW "FlatPlanLaw$Plan" 111 M_LP_pages 0 := ⟨LE_LP_pages, q_1603, q_1014⟩
theorem Q_LP_146 : LW "FlatPlanLaw$Plan" 146 M_LP_on 2 := ⟨LE_LP_on, q_1604, q_1227⟩
theorem Q_LP_150 : LW "FlatPlanLaw$Plan" 150 M_Integer_intValue 0 := ⟨LE_Integer_intValue, q_1606, q_1271⟩
theorem pe_25 : (parseMethodDescriptor "(LFlatPlanLaw$Item;I)I").map (fun d => d.parameters.length) = some 2 := by decide +kernel
theorem LE_LP_reason : LB M_LP_reason 2 := ⟨q_14, q_1625, ne2_LP, pe_25⟩
theorem Q_Law_261 : LW "FlatPlanLaw" 261 M_LP_reason 2 := ⟨LE_LP_reason, q_1622, q_1623⟩
theorem sx_LP_reason : SelX "FlatPlanLaw$Plan" ⟨"FlatPlanLaw$Plan", "reason", "(LFlatPlanLaw$Item;I)I"⟩ := .inl q_1624
theorem LE_FP_reason : LB M_FP_reason 2 := ⟨q_1, q_1642, ne_FP, pe_11⟩
theorem Q_Law_265 : LW "FlatPlanLaw" 265 M_FP_reason 2 := ⟨LE_FP_reason, q_1639, q_1640⟩
theorem sx_FP_reason : SelX "FlatPlan" ⟨"FlatPlan", "reason", "(II)I"⟩ := .inl q_1641
theorem LE_FP_choices : LB M_FP_choices 1 := ⟨q_1, q_1647, ne_FP, pe_6⟩
theorem Q_Law_267 : LW "FlatPlanLaw" 267 M_FP_choices 1 := ⟨LE_FP_choices, q_1644, q_1645⟩
theorem sx_FP_choices : SelX "FlatPlan" ⟨"FlatPlan", "choices", "(I)I"⟩ := .inl q_1646
theorem LE_FP_storyReason : LB M_FP_storyReason 2 := ⟨q_1, q_1652, ne_FP, pe_11⟩
theorem Q_Law_270 : LW "FlatPlanLaw" 270 M_FP_storyReason 2 := ⟨LE_FP_storyReason, q_1649, q_1650⟩
theorem sx_FP_storyReason : SelX "FlatPlan" ⟨"FlatPlan", "storyReason", "(II)I"⟩ := .inl q_1651
theorem LE_LP_storyReason : LB M_LP_storyReason 2 := ⟨q_14, q_1657, ne2_LP, pe_25⟩
theorem Q_Law_273 : LW "FlatPlanLaw" 273 M_LP_storyReason 2 := ⟨LE_LP_storyReason, q_1654, q_1655⟩
theorem sx_LP_storyReason : SelX "FlatPlanLaw$Plan" ⟨"FlatPlanLaw$Plan", "storyReason", "(LFlatPlanLaw$Item;I)I"⟩ := .inl q_1656
theorem LE_FP_tightest : LB M_FP_tightest 0 := ⟨q_1, q_687, ne_FP, pe_7⟩
theorem Q_Law_275 : LW "FlatPlanLaw" 275 M_FP_tightest 0 := ⟨LE_FP_tightest, q_684, q_685⟩
theorem sx_FP_tightest : SelX "FlatPlan" ⟨"FlatPlan", "tightest", "()I"⟩ := .inl q_686
theorem pe_26 : (parseMethodDescriptor "(I[I[Z)Z").map (fun d => d.parameters.length) = some 3 := by decide +kernel
theorem LE_LP_joins : LB M_LP_joins 3 := ⟨q_14, q_1662, ne2_LP, pe_26⟩
theorem Q_Law_278 : LW "FlatPlanLaw" 278 M_LP_joins 3 := ⟨LE_LP_joins, q_1659, q_1660⟩
theorem sx_LP_joins : SelX "FlatPlanLaw$Plan" ⟨"FlatPlanLaw$Plan", "joins", "(I[I[Z)Z"⟩ := .inl q_1661
theorem LE_FP_matching : LB M_FP_matching 0 := ⟨q_1, q_700, ne_FP, pe_7⟩
theorem Q_Law_282 : LW "FlatPlanLaw" 282 M_FP_matching 0 := ⟨LE_FP_matching, q_697, q_698⟩
theorem sx_FP_matching : SelX "FlatPlan" ⟨"FlatPlan", "matching", "()I"⟩ := .inl q_699
theorem LE_AL_isEmpty : LB M_AL_isEmpty 0 := ⟨q_17, q_1668, ne2_AL, pe_2⟩
theorem Q_Law_285 : LW "FlatPlanLaw" 285 M_AL_isEmpty 0 := ⟨LE_AL_isEmpty, q_1665, q_1666⟩
theorem sx_AL_isEmpty : SelX "java/util/ArrayList" ⟨"java/util/ArrayList", "isEmpty", "()Z"⟩ := .inl q_1667
theorem pe_27 : (parseMethodDescriptor "(LFlatPlan;LFlatPlanLaw$Plan;I)Z").map (fun d => d.parameters.length) = some 3 := by decide +kernel
theorem LE_Law_evictions : LB M_Law_evictions 3 := ⟨q_0, q_1671, ne_Law, pe_27⟩
theorem Q_Law_288 : LQ "FlatPlanLaw" 288 M_Law_evictions 3 := ⟨LE_Law_evictions, q_1669, q_1670⟩
theorem Q_LP_114 : LW "FlatPlanLaw$Plan" 114 M_LP_left 1 := ⟨LE_LP_left, q_1626, q_1253⟩
theorem LE_LP_isShut : LB M_LP_isShut 1 := ⟨q_14, q_1630, ne2_LP, pe_21⟩
theorem Q_LP_117 : LW "FlatPlanLaw$Plan" 117 M_LP_isShut 1 := ⟨LE_LP_isShut, q_1627, q_1628⟩
theorem sx_LP_isShut : SelX "FlatPlanLaw$Plan" ⟨"FlatPlanLaw$Plan", "isShut", "(I)Z"⟩ := .inl q_1629
theorem LE_LP_sided : LB M_LP_sided 2 := ⟨q_14, q_1634, ne2_LP, pe_23⟩
theorem Q_LP_124 : LW "FlatPlanLaw$Plan" 124 M_LP_sided 2 := ⟨LE_LP_sided, q_1631, q_1632⟩
theorem sx_LP_sided : SelX "FlatPlanLaw$Plan" ⟨"FlatPlanLaw$Plan", "sided", "(LFlatPlanLaw$Item;I)Z"⟩ := .inl q_1633
theorem LE_LP_rival : LB M_LP_rival 2 := ⟨q_14, q_1638, ne2_LP, pe_23⟩
theorem Q_LP_128 : LW "FlatPlanLaw$Plan" 128 M_LP_rival 2 := ⟨LE_LP_rival, q_1635, q_1636⟩
theorem sx_LP_rival : SelX "FlatPlanLaw$Plan" ⟨"FlatPlanLaw$Plan", "rival", "(LFlatPlanLaw$Item;I)Z"⟩ := .inl q_1637
theorem Q_LP_164 : LW "FlatPlanLaw$Plan" 164 M_LP_reason 2 := ⟨LE_LP_reason, q_1663, q_1623⟩
theorem Q_LP_168 : LW "FlatPlanLaw$Plan" 168 M_LP_joins 3 := ⟨LE_LP_joins, q_1664, q_1660⟩
theorem LE_LP_eviction : LB M_LP_eviction 2 := ⟨q_14, q_1675, ne2_LP, pe_25⟩
theorem Q_Law_292 : LW "FlatPlanLaw" 292 M_LP_eviction 2 := ⟨LE_LP_eviction, q_1672, q_1673⟩
theorem sx_LP_eviction : SelX "FlatPlanLaw$Plan" ⟨"FlatPlanLaw$Plan", "eviction", "(LFlatPlanLaw$Item;I)I"⟩ := .inl q_1674
theorem LE_FP_eviction : LB M_FP_eviction 2 := ⟨q_1, q_1679, ne_FP, pe_11⟩
theorem Q_Law_295 : LW "FlatPlanLaw" 295 M_FP_eviction 2 := ⟨LE_FP_eviction, q_1676, q_1677⟩
theorem sx_FP_eviction : SelX "FlatPlan" ⟨"FlatPlan", "eviction", "(II)I"⟩ := .inl q_1678
theorem LE_FP_cheapestPage : LB M_FP_cheapestPage 1 := ⟨q_1, q_1709, ne_FP, pe_6⟩
theorem Q_Law_297 : LW "FlatPlanLaw" 297 M_FP_cheapestPage 1 := ⟨LE_FP_cheapestPage, q_1706, q_1707⟩
theorem sx_FP_cheapestPage : SelX "FlatPlan" ⟨"FlatPlan", "cheapestPage", "(I)I"⟩ := .inl q_1708
theorem LE_FP_firstPage : LB M_FP_firstPage 2 := ⟨q_1, q_1718, ne_FP, pe_11⟩
theorem Q_Law_300 : LW "FlatPlanLaw" 300 M_FP_firstPage 2 := ⟨LE_FP_firstPage, q_1715, q_1716⟩
theorem sx_FP_firstPage : SelX "FlatPlan" ⟨"FlatPlan", "firstPage", "(II)I"⟩ := .inl q_1717
theorem LE_FP_groupOn : LB M_FP_groupOn 2 := ⟨q_1, q_1734, ne_FP, pe_11⟩
theorem Q_Law_306 : LW "FlatPlanLaw" 306 M_FP_groupOn 2 := ⟨LE_FP_groupOn, q_1731, q_1732⟩
theorem sx_FP_groupOn : SelX "FlatPlan" ⟨"FlatPlan", "groupOn", "(II)I"⟩ := .inl q_1733
theorem LE_FP_spreadsOf : LB M_FP_spreadsOf 1 := ⟨q_1, q_1743, ne_FP, pe_6⟩
theorem Q_Law_309 : LW "FlatPlanLaw" 309 M_FP_spreadsOf 1 := ⟨LE_FP_spreadsOf, q_1740, q_1741⟩
theorem sx_FP_spreadsOf : SelX "FlatPlan" ⟨"FlatPlan", "spreadsOf", "(I)I"⟩ := .inl q_1742
theorem LE_FP_revenueOfGroup : LB M_FP_revenueOfGroup 1 := ⟨q_1, q_1747, ne_FP, pe_6⟩
theorem Q_Law_312 : LW "FlatPlanLaw" 312 M_FP_revenueOfGroup 1 := ⟨LE_FP_revenueOfGroup, q_1744, q_1745⟩
theorem sx_FP_revenueOfGroup : SelX "FlatPlan" ⟨"FlatPlan", "revenueOfGroup", "(I)I"⟩ := .inl q_1746
theorem LE_FP_nearRivals : LB M_FP_nearRivals 0 := ⟨q_1, q_1751, ne_FP, pe_7⟩
theorem Q_Law_315 : LW "FlatPlanLaw" 315 M_FP_nearRivals 0 := ⟨LE_FP_nearRivals, q_1748, q_1749⟩
theorem sx_FP_nearRivals : SelX "FlatPlan" ⟨"FlatPlan", "nearRivals", "()I"⟩ := .inl q_1750
theorem LE_Law_items : LB M_Law_items 2 := ⟨q_0, q_1756, ne_Law, pe_19⟩
theorem Q_Law_318 : LQ "FlatPlanLaw" 318 M_Law_items 2 := ⟨LE_Law_items, q_1754, q_1755⟩
theorem LE_Law_better : LB M_Law_better 2 := ⟨q_0, q_1831, ne_Law, pe_19⟩
theorem Q_Law_321 : LQ "FlatPlanLaw" 321 M_Law_better 2 := ⟨LE_Law_better, q_1829, q_1830⟩
theorem Q_Law_324 : LI "FlatPlanLaw" 324 M_AL_init 0 := ⟨LE_AL_init, q_1758, q_741, rfl, rfl⟩
theorem Q_Law_325 : LW "FlatPlanLaw" 325 M_LP_isShut 1 := ⟨LE_LP_isShut, q_1759, q_1628⟩
theorem pe_28 : (parseMethodDescriptor "(LFlatPlanLaw$Item;)Z").map (fun d => d.parameters.length) = some 1 := by decide +kernel
theorem LE_LP_open : LB M_LP_open 1 := ⟨q_14, q_1763, ne2_LP, pe_28⟩
theorem Q_Law_328 : LW "FlatPlanLaw" 328 M_LP_open 1 := ⟨LE_LP_open, q_1760, q_1761⟩
theorem sx_LP_open : SelX "FlatPlanLaw$Plan" ⟨"FlatPlanLaw$Plan", "open", "(LFlatPlanLaw$Item;)Z"⟩ := .inl q_1762
theorem pe_29 : (parseMethodDescriptor "(LFlatPlanLaw$Plan;I)I").map (fun d => d.parameters.length) = some 2 := by decide +kernel
theorem LE_Law_ready : LB M_Law_ready 2 := ⟨q_0, q_1766, ne_Law, pe_29⟩
theorem Q_Law_332 : LQ "FlatPlanLaw" 332 M_Law_ready 2 := ⟨LE_Law_ready, q_1764, q_1765⟩
theorem Q_Law_335 : LQ "FlatPlanLaw" 335 M_Integer_valueOf 1 := ⟨LE_Integer_valueOf, q_1767, q_1233⟩
theorem pe_30 : (parseMethodDescriptor "(ILjava/lang/Object;)V").map (fun d => d.parameters.length) = some 2 := by decide +kernel
theorem LE_AL_add3 : LB M_AL_add3 2 := ⟨q_17, q_1771, ne2_AL, pe_30⟩
theorem Q_Law_339 : LW "FlatPlanLaw" 339 M_AL_add3 2 := ⟨LE_AL_add3, q_1768, q_1769⟩
theorem sx_AL_add3 : SelX "java/util/ArrayList" ⟨"java/util/ArrayList", "add", "(ILjava/lang/Object;)V"⟩ := .inl q_1770
theorem LE_FP_lateItem : LB M_FP_lateItem 1 := ⟨q_1, q_1793, ne_FP, pe_6⟩
theorem Q_Law_343 : LW "FlatPlanLaw" 343 M_FP_lateItem 1 := ⟨LE_FP_lateItem, q_1790, q_1791⟩
theorem sx_FP_lateItem : SelX "FlatPlan" ⟨"FlatPlan", "lateItem", "(I)I"⟩ := .inl q_1792
theorem LE_FP_lastReady : LB M_FP_lastReady 0 := ⟨q_1, q_1824, ne_FP, pe_7⟩
theorem Q_Law_346 : LW "FlatPlanLaw" 346 M_FP_lastReady 0 := ⟨LE_FP_lastReady, q_1821, q_1822⟩
theorem sx_FP_lastReady : SelX "FlatPlan" ⟨"FlatPlan", "lastReady", "()I"⟩ := .inl q_1823
theorem LE_LP_colored : LB M_LP_colored 0 := ⟨q_14, q_1835, ne2_LP, pe_7⟩
theorem Q_Law_349 : LW "FlatPlanLaw" 349 M_LP_colored 0 := ⟨LE_LP_colored, q_1832, q_1833⟩
theorem sx_LP_colored : SelX "FlatPlanLaw$Plan" ⟨"FlatPlanLaw$Plan", "colored", "()I"⟩ := .inl q_1834
theorem LE_LP_exchangeReason : LB M_LP_exchangeReason 2 := ⟨q_14, q_1840, ne2_LP, pe_11⟩
theorem Q_Law_352 : LW "FlatPlanLaw" 352 M_LP_exchangeReason 2 := ⟨LE_LP_exchangeReason, q_1837, q_1838⟩
theorem sx_LP_exchangeReason : SelX "FlatPlanLaw$Plan" ⟨"FlatPlanLaw$Plan", "exchangeReason", "(II)I"⟩ := .inl q_1839
theorem pe_31 : (parseMethodDescriptor "(II)V").map (fun d => d.parameters.length) = some 2 := by decide +kernel
theorem LE_LP_swap : LB M_LP_swap 2 := ⟨q_14, q_1844, ne2_LP, pe_31⟩
theorem Q_Law_355 : LW "FlatPlanLaw" 355 M_LP_swap 2 := ⟨LE_LP_swap, q_1845, q_1842⟩
theorem sx_LP_swap : SelX "FlatPlanLaw$Plan" ⟨"FlatPlanLaw$Plan", "swap", "(II)V"⟩ := .inl q_1843
theorem LE_FP_betterExchange : LB M_FP_betterExchange 0 := ⟨q_1, q_1849, ne_FP, pe_7⟩
theorem Q_Law_359 : LW "FlatPlanLaw" 359 M_FP_betterExchange 0 := ⟨LE_FP_betterExchange, q_1846, q_1847⟩
theorem sx_FP_betterExchange : SelX "FlatPlan" ⟨"FlatPlan", "betterExchange", "()I"⟩ := .inl q_1848
theorem Q_LP_140 : LW "FlatPlanLaw$Plan" 140 M_LP_hasColor 1 := ⟨LE_LP_hasColor, q_1836, q_1536⟩
theorem Q_LP_160 : LW "FlatPlanLaw$Plan" 160 M_LP_swap 2 := ⟨LE_LP_swap, q_1841, q_1842⟩
theorem pe_32 : (parseMethodDescriptor "([II)I").map (fun d => d.parameters.length) = some 2 := by decide +kernel
theorem LE_Law_pick : LB M_Law_pick 2 := ⟨q_0, q_987, ne_Law, pe_32⟩
theorem Q_Law_362 : LQ "FlatPlanLaw" 362 M_Law_pick 2 := ⟨LE_Law_pick, q_985, q_986⟩
theorem Q_Law_376 : LIN "FlatPlanLaw" 376 M_LI_init 0 := ⟨LE_LI_init, ⟨_, List.mem_of_getElem? (i := 10) rfl⟩, q_869, rfl, rfl⟩
theorem Q_Law_378 : LW "FlatPlanLaw" 378 M_AL_add 1 := ⟨LE_AL_add, q_1888, q_909⟩
theorem LE_FP_put : LB M_FP_put 2 := ⟨q_1, q_1905, ne_FP, pe_11⟩
theorem Q_Law_393 : LW "FlatPlanLaw" 393 M_FP_put 2 := ⟨LE_FP_put, q_1902, q_1903⟩
theorem sx_FP_put : SelX "FlatPlan" ⟨"FlatPlan", "put", "(II)I"⟩ := .inl q_1904
theorem LE_LP_shut : LB M_LP_shut 1 := ⟨q_14, q_1917, ne2_LP, pe_28⟩
theorem Q_Law_396 : LW "FlatPlanLaw" 396 M_LP_shut 1 := ⟨LE_LP_shut, q_1914, q_1915⟩
theorem sx_LP_shut : SelX "FlatPlanLaw$Plan" ⟨"FlatPlanLaw$Plan", "shut", "(LFlatPlanLaw$Item;)Z"⟩ := .inl q_1916
theorem LE_FP_lay : LB M_FP_lay 2 := ⟨q_1, q_1921, ne_FP, pe_11⟩
theorem Q_Law_399 : LW "FlatPlanLaw" 399 M_FP_lay 2 := ⟨LE_FP_lay, q_1918, q_1919⟩
theorem sx_FP_lay : SelX "FlatPlan" ⟨"FlatPlan", "lay", "(II)I"⟩ := .inl q_1920
theorem LE_FP_take : LB M_FP_take 1 := ⟨q_1, q_1929, ne_FP, pe_21⟩
theorem Q_Law_402 : LW "FlatPlanLaw" 402 M_FP_take 1 := ⟨LE_FP_take, q_1926, q_1927⟩
theorem sx_FP_take : SelX "FlatPlan" ⟨"FlatPlan", "take", "(I)Z"⟩ := .inl q_1928
theorem LE_FP_takeStory : LB M_FP_takeStory 1 := ⟨q_1, q_1933, ne_FP, pe_21⟩
theorem Q_Law_405 : LW "FlatPlanLaw" 405 M_FP_takeStory 1 := ⟨LE_FP_takeStory, q_1930, q_1931⟩
theorem sx_FP_takeStory : SelX "FlatPlan" ⟨"FlatPlan", "takeStory", "(I)Z"⟩ := .inl q_1932
theorem LE_FP_use : LB M_FP_use 2 := ⟨q_1, q_1937, ne_FP, pe_11⟩
theorem Q_Law_408 : LW "FlatPlanLaw" 408 M_FP_use 2 := ⟨LE_FP_use, q_1934, q_1935⟩
theorem sx_FP_use : SelX "FlatPlan" ⟨"FlatPlan", "use", "(II)I"⟩ := .inl q_1936
theorem LE_FP_clear : LB M_FP_clear 1 := ⟨q_1, q_1945, ne_FP, pe_6⟩
theorem Q_Law_411 : LW "FlatPlanLaw" 411 M_FP_clear 1 := ⟨LE_FP_clear, q_1942, q_1943⟩
theorem sx_FP_clear : SelX "FlatPlan" ⟨"FlatPlan", "clear", "(I)I"⟩ := .inl q_1944
theorem LE_FP_exchange : LB M_FP_exchange 2 := ⟨q_1, q_1949, ne_FP, pe_11⟩
theorem Q_Law_414 : LW "FlatPlanLaw" 414 M_FP_exchange 2 := ⟨LE_FP_exchange, q_1946, q_1947⟩
theorem sx_FP_exchange : SelX "FlatPlan" ⟨"FlatPlan", "exchange", "(II)I"⟩ := .inl q_1948
theorem pe_33 : (parseMethodDescriptor "(LFlatPlan;LFlatPlanLaw$Plan;IIIILFlatPlanLaw$Item;I)I").map (fun d => d.parameters.length) = some 8 := by decide +kernel
theorem LE_Law_others : LB M_Law_others 8 := ⟨q_0, q_1954, ne_Law, pe_33⟩
theorem Q_Law_417 : LQ "FlatPlanLaw" 417 M_Law_others 8 := ⟨LE_Law_others, q_1952, q_1953⟩
theorem pe_34 : (parseMethodDescriptor "(IZ)Z").map (fun d => d.parameters.length) = some 2 := by decide +kernel
theorem LE_FP_setColor : LB M_FP_setColor 2 := ⟨q_1, q_1958, ne_FP, pe_34⟩
theorem Q_Law_421 : LW "FlatPlanLaw" 421 M_FP_setColor 2 := ⟨LE_FP_setColor, q_1955, q_1956⟩
theorem sx_FP_setColor : SelX "FlatPlan" ⟨"FlatPlan", "setColor", "(IZ)Z"⟩ := .inl q_1957
theorem Q_Law_425 : LW "FlatPlanLaw" 425 M_LP_close 1 := ⟨LE_LP_close, q_1959, q_1600⟩
theorem LE_FP_setClosing : LB M_FP_setClosing 2 := ⟨q_1, q_1963, ne_FP, pe_11⟩
theorem Q_Law_429 : LW "FlatPlanLaw" 429 M_FP_setClosing 2 := ⟨LE_FP_setClosing, q_1960, q_1961⟩
theorem sx_FP_setClosing : SelX "FlatPlan" ⟨"FlatPlan", "setClosing", "(II)I"⟩ := .inl q_1962
theorem LE_FP_pass : LB M_FP_pass 1 := ⟨q_1, q_1985, ne_FP, pe_6⟩
theorem Q_Law_432 : LW "FlatPlanLaw" 432 M_FP_pass 1 := ⟨LE_FP_pass, q_1982, q_1983⟩
theorem sx_FP_pass : SelX "FlatPlan" ⟨"FlatPlan", "pass", "(I)I"⟩ := .inl q_1984
theorem LE_FP_print : LB M_FP_print 1 := ⟨q_1, q_1990, ne_FP, pe_6⟩
theorem Q_Law_433 : LW "FlatPlanLaw" 433 M_FP_print 1 := ⟨LE_FP_print, q_1987, q_1988⟩
theorem sx_FP_print : SelX "FlatPlan" ⟨"FlatPlan", "print", "(I)I"⟩ := .inl q_1989
theorem LE_FP_placeAds : LB M_FP_placeAds 0 := ⟨q_1, q_1994, ne_FP, pe_7⟩
theorem Q_Law_436 : LW "FlatPlanLaw" 436 M_FP_placeAds 0 := ⟨LE_FP_placeAds, q_1991, q_1992⟩
theorem sx_FP_placeAds : SelX "FlatPlan" ⟨"FlatPlan", "placeAds", "()I"⟩ := .inl q_1993
theorem pe_35 : (parseMethodDescriptor "(LFlatPlanLaw$Plan;)I").map (fun d => d.parameters.length) = some 1 := by decide +kernel
theorem LE_Law_places : LB M_Law_places 1 := ⟨q_0, q_2011, ne_Law, pe_35⟩
theorem Q_Law_439 : LQ "FlatPlanLaw" 439 M_Law_places 1 := ⟨LE_Law_places, q_2009, q_2010⟩
theorem LE_FP_layStories : LB M_FP_layStories 0 := ⟨q_1, q_2015, ne_FP, pe_7⟩
theorem Q_Law_443 : LW "FlatPlanLaw" 443 M_FP_layStories 0 := ⟨LE_FP_layStories, q_2012, q_2013⟩
theorem sx_FP_layStories : SelX "FlatPlan" ⟨"FlatPlan", "layStories", "()I"⟩ := .inl q_2014
theorem pe_36 : (parseMethodDescriptor "(IIII)I").map (fun d => d.parameters.length) = some 4 := by decide +kernel
theorem LE_FP_addAd : LB M_FP_addAd 4 := ⟨q_1, q_2028, ne_FP, pe_36⟩
theorem Q_Law_446 : LW "FlatPlanLaw" 446 M_FP_addAd 4 := ⟨LE_FP_addAd, q_2025, q_2026⟩
theorem sx_FP_addAd : SelX "FlatPlan" ⟨"FlatPlan", "addAd", "(IIII)I"⟩ := .inl q_2027
theorem pe_37 : (parseMethodDescriptor "(IZI)Z").map (fun d => d.parameters.length) = some 3 := by decide +kernel
theorem LE_FP_setAd : LB M_FP_setAd 3 := ⟨q_1, q_2038, ne_FP, pe_37⟩
theorem Q_Law_450 : LW "FlatPlanLaw" 450 M_FP_setAd 3 := ⟨LE_FP_setAd, q_2035, q_2036⟩
theorem sx_FP_setAd : SelX "FlatPlan" ⟨"FlatPlan", "setAd", "(IZI)Z"⟩ := .inl q_2037
theorem LE_FP_setPrice : LB M_FP_setPrice 2 := ⟨q_1, q_2043, ne_FP, pe_11⟩
theorem Q_Law_454 : LW "FlatPlanLaw" 454 M_FP_setPrice 2 := ⟨LE_FP_setPrice, q_2040, q_2041⟩
theorem sx_FP_setPrice : SelX "FlatPlan" ⟨"FlatPlan", "setPrice", "(II)I"⟩ := .inl q_2042
theorem LE_FP_init : LB M_FP_init 0 := ⟨q_1, q_43, ne_FP, pe_0⟩
theorem Q_Law_457 : LI "FlatPlanLaw" 457 M_FP_init 0 := ⟨LE_FP_init, q_41, q_42, rfl, rfl⟩
theorem Q_Law_458 : LIN "FlatPlanLaw" 458 M_LP_init 0 := ⟨LE_LP_init, ⟨_, List.mem_of_getElem? (i := 9) rfl⟩, q_735, rfl, rfl⟩
theorem LE_Law_same : LB M_Law_same 3 := ⟨q_0, q_1012, ne_Law, pe_27⟩
theorem Q_Law_459 : LQ "FlatPlanLaw" 459 M_Law_same 3 := ⟨LE_Law_same, q_1010, q_1011⟩
theorem LE_Law_pages : LB M_Law_pages 2 := ⟨q_0, q_1225, ne_Law, pe_19⟩
theorem Q_Law_462 : LQ "FlatPlanLaw" 462 M_Law_pages 2 := ⟨LE_Law_pages, q_1223, q_1224⟩
theorem LE_FP_errorCode : LB M_FP_errorCode 0 := ⟨q_1, q_679, ne_FP, pe_7⟩
theorem Q_Law_464 : LW "FlatPlanLaw" 464 M_FP_errorCode 0 := ⟨LE_FP_errorCode, q_676, q_677⟩
theorem sx_FP_errorCode : SelX "FlatPlan" ⟨"FlatPlan", "errorCode", "()I"⟩ := .inl q_678
theorem LE_FP_errorPosition : LB M_FP_errorPosition 0 := ⟨q_1, q_683, ne_FP, pe_7⟩
theorem Q_Law_467 : LW "FlatPlanLaw" 467 M_FP_errorPosition 0 := ⟨LE_FP_errorPosition, q_680, q_681⟩
theorem sx_FP_errorPosition : SelX "FlatPlan" ⟨"FlatPlan", "errorPosition", "()I"⟩ := .inl q_682
theorem LE_FP_undo : LB M_FP_undo 0 := ⟨q_1, q_726, ne_FP, pe_2⟩
theorem Q_Law_470 : LW "FlatPlanLaw" 470 M_FP_undo 0 := ⟨LE_FP_undo, q_723, q_724⟩
theorem sx_FP_undo : SelX "FlatPlan" ⟨"FlatPlan", "undo", "()Z"⟩ := .inl q_725
theorem LE_AL_clear : LB M_AL_clear 0 := ⟨q_17, q_2085, ne2_AL, pe_0⟩
theorem Q_Law_473 : LW "FlatPlanLaw" 473 M_AL_clear 0 := ⟨LE_AL_clear, q_2082, q_2083⟩
theorem sx_AL_clear : SelX "java/util/ArrayList" ⟨"java/util/ArrayList", "clear", "()V"⟩ := .inl q_2084
theorem pe_38 : (parseMethodDescriptor "(LFlatPlanLaw$Plan;[II)Ljava/lang/String;").map (fun d => d.parameters.length) = some 3 := by decide +kernel
theorem LE_Law_plan : LB M_Law_plan 3 := ⟨q_0, q_1880, ne_Law, pe_38⟩
theorem Q_Law_475 : LQ "FlatPlanLaw" 475 M_Law_plan 3 := ⟨LE_Law_plan, q_1878, q_1879⟩
theorem pe_39 : (parseMethodDescriptor "(LFlatPlan;Ljava/lang/String;)V").map (fun d => d.parameters.length) = some 2 := by decide +kernel
theorem LE_Law_input : LB M_Law_input 2 := ⟨q_0, q_991, ne_Law, pe_39⟩
theorem Q_Law_479 : LQ "FlatPlanLaw" 479 M_Law_input 2 := ⟨LE_Law_input, q_989, q_990⟩
theorem LE_FP_load : LB M_FP_load 0 := ⟨q_1, q_455, ne_FP, pe_7⟩
theorem Q_Law_483 : LW "FlatPlanLaw" 483 M_FP_load 0 := ⟨LE_FP_load, q_452, q_453⟩
theorem sx_FP_load : SelX "FlatPlan" ⟨"FlatPlan", "load", "()I"⟩ := .inl q_454
theorem pe_40 : (parseMethodDescriptor "(Ljava/lang/String;)I").map (fun d => d.parameters.length) = some 1 := by decide +kernel
theorem LE_Law_statements : LB M_Law_statements 1 := ⟨q_0, q_1898, ne_Law, pe_40⟩
theorem Q_Law_486 : LQ "FlatPlanLaw" 486 M_Law_statements 1 := ⟨LE_Law_statements, q_1896, q_1897⟩
theorem pe_41 : (parseMethodDescriptor "(II)Ljava/lang/String;").map (fun d => d.parameters.length) = some 2 := by decide +kernel
theorem LE_String_substring2 : LB M_String_substring2 2 := ⟨q_25, q_2053, ne_String, pe_41⟩
theorem Q_Law_490 : LW "FlatPlanLaw" 490 M_String_substring2 2 := ⟨LE_String_substring2, q_2073, q_2051⟩
theorem sx_String_substring2 : SelX "java/lang/String" ⟨"java/lang/String", "substring", "(II)Ljava/lang/String;"⟩ := .inl q_2052
theorem pe_42 : (parseMethodDescriptor "(I)Ljava/lang/String;").map (fun d => d.parameters.length) = some 1 := by decide +kernel
theorem LE_String_substring : LB M_String_substring 1 := ⟨q_25, q_2048, ne_String, pe_42⟩
theorem Q_Law_496 : LW "FlatPlanLaw" 496 M_String_substring 1 := ⟨LE_String_substring, q_2045, q_2046⟩
theorem sx_String_substring : SelX "java/lang/String" ⟨"java/lang/String", "substring", "(I)Ljava/lang/String;"⟩ := .inl q_2047
theorem pe_43 : (parseMethodDescriptor "(LFlatPlan;LFlatPlanLaw$Plan;III)I").map (fun d => d.parameters.length) = some 5 := by decide +kernel
theorem LE_Law_changes : LB M_Law_changes 5 := ⟨q_0, q_1901, ne_Law, pe_43⟩
theorem Q_Law_499 : LQ "FlatPlanLaw" 499 M_Law_changes 5 := ⟨LE_Law_changes, q_1899, q_1900⟩
theorem LE_AL_remove : LB M_AL_remove 1 := ⟨q_17, q_2077, ne2_AL, pe_10⟩
theorem Q_Law_503 : LW "FlatPlanLaw" 503 M_AL_remove 1 := ⟨LE_AL_remove, q_2074, q_2075⟩
theorem sx_AL_remove : SelX "java/util/ArrayList" ⟨"java/util/ArrayList", "remove", "(I)Ljava/lang/Object;"⟩ := .inl q_2076
theorem LE_Law_forms : LB M_Law_forms 2 := ⟨q_0, q_1516, ne_Law, pe_19⟩
theorem Q_Law_506 : LQ "FlatPlanLaw" 506 M_Law_forms 2 := ⟨LE_Law_forms, q_1514, q_1515⟩
theorem LE_Law_choices : LB M_Law_choices 3 := ⟨q_0, q_1621, ne_Law, pe_27⟩
theorem Q_Law_509 : LQ "FlatPlanLaw" 509 M_Law_choices 3 := ⟨LE_Law_choices, q_1619, q_1620⟩
theorem LE_Law_groups : LB M_Law_groups 3 := ⟨q_0, q_1727, ne_Law, pe_27⟩
theorem Q_Law_511 : LQ "FlatPlanLaw" 511 M_Law_groups 3 := ⟨LE_Law_groups, q_1725, q_1726⟩
theorem pe_44 : (parseMethodDescriptor "()B").map (fun d => d.parameters.length) = some 0 := by decide +kernel
theorem LE_String_coder : LB M_String_coder 0 := ⟨q_25, q_487, ne_String, pe_44⟩
theorem Q_String_335 : LW "java/lang/String" 335 M_String_coder 0 := ⟨LE_String_coder, q_484, q_485⟩
theorem sx_String_coder : SelX "java/lang/String" ⟨"java/lang/String", "coder", "()B"⟩ := .inl q_486
theorem LE_String_isLatin1 : LB M_String_isLatin1 0 := ⟨q_25, q_497, ne_String, pe_2⟩
theorem Q_String_492 : LW "java/lang/String" 492 M_String_isLatin1 0 := ⟨LE_String_isLatin1, q_494, q_495⟩
theorem sx_String_isLatin1 : SelX "java/lang/String" ⟨"java/lang/String", "isLatin1", "()Z"⟩ := .inl q_496
theorem pe_45 : (parseMethodDescriptor "([BI)C").map (fun d => d.parameters.length) = some 2 := by decide +kernel
theorem LE_StringLatin1_charAt : LB M_StringLatin1_charAt 2 := ⟨q_35, q_500, ne_StringLatin1, pe_45⟩
theorem Q_String_495 : LQ "java/lang/String" 495 M_StringLatin1_charAt 2 := ⟨LE_StringLatin1_charAt, q_498, q_499⟩
theorem LE_String_checkIndex : LB M_String_checkIndex 2 := ⟨q_25, q_503, ne_String, pe_31⟩
theorem Q_SL_9 : LQ "java/lang/StringLatin1" 9 M_String_checkIndex 2 := ⟨LE_String_checkIndex, q_501, q_502⟩
theorem pe_46 : (parseMethodDescriptor "(IILjava/util/function/BiFunction;)I").map (fun d => d.parameters.length) = some 3 := by decide +kernel
theorem LE_Preconditions_checkIndex : LB M_Preconditions_checkIndex 3 := ⟨q_19, q_508, ne_Preconditions, pe_46⟩
theorem Q_String_1059 : LQ "java/lang/String" 1059 M_Preconditions_checkIndex 3 := ⟨LE_Preconditions_checkIndex, q_506, q_507⟩
theorem ne2_AbL : "java/util/AbstractList" ≠ "java/lang/invoke/MethodHandle" ∧ "java/util/AbstractList" ≠ "java/lang/invoke/VarHandle" := by decide
theorem LE_AbL_init : LB M_AbL_init 0 := ⟨q_16, q_745, ne2_AbL, pe_0⟩
theorem Q_AL_1 : LI "java/util/ArrayList" 1 M_AbL_init 0 := ⟨LE_AbL_init, q_743, q_744, rfl, rfl⟩
theorem ne2_AbC : "java/util/AbstractCollection" ≠ "java/lang/invoke/MethodHandle" ∧ "java/util/AbstractCollection" ≠ "java/lang/invoke/VarHandle" := by decide
theorem LE_AbC_init : LB M_AbC_init 0 := ⟨q_15, q_748, ne2_AbC, pe_0⟩
theorem Q_AbL_1 : LI "java/util/AbstractList" 1 M_AbC_init 0 := ⟨LE_AbC_init, q_746, q_747, rfl, rfl⟩
theorem pe_47 : (parseMethodDescriptor "(Ljava/util/ArrayList;)V").map (fun d => d.parameters.length) = some 1 := by decide +kernel
theorem LE_Itr_init : LB M_Itr_init 1 := ⟨q_36, q_823, ne2_Itr, pe_47⟩
theorem Q_AL_269 : LI "java/util/ArrayList" 269 M_Itr_init 1 := ⟨LE_Itr_init, q_821, q_822, rfl, rfl⟩
theorem LE_Itr_checkForComodification : LB M_Itr_checkForComodification 0 := ⟨q_36, q_860, ne2_Itr, pe_0⟩
theorem Q_Itr_31 : LW "java/util/ArrayList$Itr" 31 M_Itr_checkForComodification 0 := ⟨LE_Itr_checkForComodification, q_857, q_858⟩
theorem sx_Itr_checkForComodification : SelX "java/util/ArrayList$Itr" ⟨"java/util/ArrayList$Itr", "checkForComodification", "()V"⟩ := .inl q_859
theorem pe_48 : (parseMethodDescriptor "(Ljava/lang/Object;[Ljava/lang/Object;I)V").map (fun d => d.parameters.length) = some 3 := by decide +kernel
theorem LE_AL_add2 : LB M_AL_add2 3 := ⟨q_17, q_915, ne2_AL, pe_48⟩
theorem Q_AL_131 : LW "java/util/ArrayList" 131 M_AL_add2 3 := ⟨LE_AL_add2, q_912, q_914⟩
theorem sx_AL_add2 : SelX "java/util/ArrayList" ⟨"java/util/ArrayList", "add", "(Ljava/lang/Object;[Ljava/lang/Object;I)V"⟩ := .inl qs_23
theorem pe_49 : (parseMethodDescriptor "()[Ljava/lang/Object;").map (fun d => d.parameters.length) = some 0 := by decide +kernel
theorem LE_AL_grow : LB M_AL_grow 0 := ⟨q_17, q_919, ne2_AL, pe_49⟩
theorem Q_AL_129 : LW "java/util/ArrayList" 129 M_AL_grow 0 := ⟨LE_AL_grow, q_916, q_918⟩
theorem sx_AL_grow : SelX "java/util/ArrayList" ⟨"java/util/ArrayList", "grow", "()[Ljava/lang/Object;"⟩ := .inl qs_24
theorem pe_50 : (parseMethodDescriptor "(I)[Ljava/lang/Object;").map (fun d => d.parameters.length) = some 1 := by decide +kernel
theorem LE_AL_grow2 : LB M_AL_grow2 1 := ⟨q_17, q_923, ne2_AL, pe_50⟩
theorem Q_AL_69 : LW "java/util/ArrayList" 69 M_AL_grow2 1 := ⟨LE_AL_grow2, q_920, q_922⟩
theorem sx_AL_grow2 : SelX "java/util/ArrayList" ⟨"java/util/ArrayList", "grow", "(I)[Ljava/lang/Object;"⟩ := .inl qs_25
theorem ne2_ArS : "jdk/internal/util/ArraysSupport" ≠ "java/lang/invoke/MethodHandle" ∧ "jdk/internal/util/ArraysSupport" ≠ "java/lang/invoke/VarHandle" := by decide
theorem pe_51 : (parseMethodDescriptor "(III)I").map (fun d => d.parameters.length) = some 3 := by decide +kernel
theorem LE_ArS_newLength : LB M_ArS_newLength 3 := ⟨q_30, q_926, ne2_ArS, pe_51⟩
theorem Q_AL_73 : LQ "java/util/ArrayList" 73 M_ArS_newLength 3 := ⟨LE_ArS_newLength, q_924, q_925⟩
theorem pe_52 : (parseMethodDescriptor "([Ljava/lang/Object;I)[Ljava/lang/Object;").map (fun d => d.parameters.length) = some 2 := by decide +kernel
theorem LE_Ars_copyOf : LB M_Ars_copyOf 2 := ⟨q_10, q_936, ne_Arrays, pe_52⟩
theorem Q_AL_66 : LQ "java/util/ArrayList" 66 M_Ars_copyOf 2 := ⟨LE_Ars_copyOf, q_934, q_935⟩
theorem pe_53 : (parseMethodDescriptor "([Ljava/lang/Object;ILjava/lang/Class;)[Ljava/lang/Object;").map (fun d => d.parameters.length) = some 3 := by decide +kernel
theorem LE_Ars_copyOf2 : LB M_Ars_copyOf2 3 := ⟨q_10, q_965, ne_Arrays, pe_53⟩
theorem Q_Ars_300 : LQ "java/util/Arrays" 300 M_Ars_copyOf2 3 := ⟨LE_Ars_copyOf2, q_963, q_964⟩
theorem ne2_Objs : "java/util/Objects" ≠ "java/lang/invoke/MethodHandle" ∧ "java/util/Objects" ≠ "java/lang/invoke/VarHandle" := by decide
theorem LE_Objs_checkIndex : LB M_Objs_checkIndex 2 := ⟨q_18, q_1027, ne2_Objs, pe_11⟩
theorem Q_AL_118 : LQ "java/util/ArrayList" 118 M_Objs_checkIndex 2 := ⟨LE_Objs_checkIndex, q_1025, q_1026⟩
theorem LE_AL_elementData : LB M_AL_elementData 1 := ⟨q_17, q_1032, ne2_AL, pe_10⟩
theorem Q_AL_123 : LW "java/util/ArrayList" 123 M_AL_elementData 1 := ⟨LE_AL_elementData, q_1029, q_1030⟩
theorem sx_AL_elementData : SelX "java/util/ArrayList" ⟨"java/util/ArrayList", "elementData", "(I)Ljava/lang/Object;"⟩ := .inl q_1031
theorem Q_Objs_105 : LQ "java/util/Objects" 105 M_Preconditions_checkIndex 3 := ⟨LE_Preconditions_checkIndex, q_1028, q_507⟩
theorem LE_Integer_init : LB M_Integer_init 1 := ⟨q_28, q_1243, ne_Integer, pe_24⟩
theorem Q_Integer_199 : LI "java/lang/Integer" 199 M_Integer_init 1 := ⟨LE_Integer_init, q_1241, q_1242, rfl, rfl⟩
theorem ne2_Number : "java/lang/Number" ≠ "java/lang/invoke/MethodHandle" ∧ "java/lang/Number" ≠ "java/lang/invoke/VarHandle" := by decide
theorem LE_Number_init : LB M_Number_init 0 := ⟨q_27, q_1246, ne2_Number, pe_0⟩
theorem Q_Integer_202 : LI "java/lang/Integer" 202 M_Number_init 0 := ⟨LE_Number_init, q_1244, q_1245, rfl, rfl⟩
theorem ne2_ASB : "java/lang/AbstractStringBuilder" ≠ "java/lang/invoke/MethodHandle" ∧ "java/lang/AbstractStringBuilder" ≠ "java/lang/invoke/VarHandle" := by decide
theorem LE_ASB_init : LB M_ASB_init 1 := ⟨q_32, q_1282, ne2_ASB, pe_24⟩
theorem Q_SB_1 : LI "java/lang/StringBuilder" 1 M_ASB_init 1 := ⟨LE_ASB_init, q_1280, q_1281, rfl, rfl⟩
theorem pe_54 : (parseMethodDescriptor "(Ljava/lang/String;)Ljava/lang/AbstractStringBuilder;").map (fun d => d.parameters.length) = some 1 := by decide +kernel
theorem LE_ASB_append : LB M_ASB_append 1 := ⟨q_32, q_1312, ne2_ASB, pe_54⟩
theorem Q_SB_29 : LW "java/lang/StringBuilder" 29 M_ASB_append 1 := ⟨LE_ASB_append, q_1310, q_1311⟩
theorem Q_ASB_32 : LW "java/lang/AbstractStringBuilder" 32 M_String_length 0 := ⟨LE_String_length, q_1355, q_481⟩
theorem LE_ASB_ensureCapacityInternal : LB M_ASB_ensureCapacityInternal 1 := ⟨q_32, q_1320, ne2_ASB, pe_24⟩
theorem Q_ASB_100 : LW "java/lang/AbstractStringBuilder" 100 M_ASB_ensureCapacityInternal 1 := ⟨LE_ASB_ensureCapacityInternal, q_1317, q_1319⟩
theorem sx_ASB_ensureCapacityInternal : SelX "java/lang/StringBuilder" ⟨"java/lang/AbstractStringBuilder", "ensureCapacityInternal", "(I)V"⟩ := .inr ⟨rfl, by decide +kernel⟩
theorem pe_55 : (parseMethodDescriptor "(ILjava/lang/String;)V").map (fun d => d.parameters.length) = some 2 := by decide +kernel
theorem LE_ASB_putStringAt : LB M_ASB_putStringAt 2 := ⟨q_32, q_1359, ne2_ASB, pe_55⟩
theorem Q_ASB_208 : LW "java/lang/AbstractStringBuilder" 208 M_ASB_putStringAt 2 := ⟨LE_ASB_putStringAt, q_1356, q_1358⟩
theorem sx_ASB_putStringAt : SelX "java/lang/StringBuilder" ⟨"java/lang/AbstractStringBuilder", "putStringAt", "(ILjava/lang/String;)V"⟩ := .inr ⟨rfl, by decide +kernel⟩
theorem LE_ASB_newCapacity : LB M_ASB_newCapacity 1 := ⟨q_32, q_1324, ne2_ASB, pe_6⟩
theorem Q_ASB_104 : LW "java/lang/AbstractStringBuilder" 104 M_ASB_newCapacity 1 := ⟨LE_ASB_newCapacity, q_1321, q_1323⟩
theorem sx_ASB_newCapacity : SelX "java/lang/StringBuilder" ⟨"java/lang/AbstractStringBuilder", "newCapacity", "(I)I"⟩ := .inr ⟨rfl, by decide +kernel⟩
theorem pe_56 : (parseMethodDescriptor "([BI)[B").map (fun d => d.parameters.length) = some 2 := by decide +kernel
theorem LE_Ars_copyOf3 : LB M_Ars_copyOf3 2 := ⟨q_10, q_1329, ne_Arrays, pe_56⟩
theorem Q_ASB_108 : LQ "java/lang/AbstractStringBuilder" 108 M_Ars_copyOf3 2 := ⟨LE_Ars_copyOf3, q_1327, q_1328⟩
theorem Q_ASB_114 : LQ "java/lang/AbstractStringBuilder" 114 M_ArS_newLength 3 := ⟨LE_ArS_newLength, q_1325, q_925⟩
theorem pe_57 : (parseMethodDescriptor "(IIILjava/util/function/BiFunction;)I").map (fun d => d.parameters.length) = some 4 := by decide +kernel
theorem LE_Prec_checkFromToIndex : LB M_Prec_checkFromToIndex 4 := ⟨q_19, q_1351, ne_Preconditions, pe_57⟩
theorem Q_String_1062 : LQ "java/lang/String" 1062 M_Prec_checkFromToIndex 4 := ⟨LE_Prec_checkFromToIndex, q_1349, q_1350⟩
theorem pe_58 : (parseMethodDescriptor "(Ljava/lang/String;)V").map (fun d => d.parameters.length) = some 1 := by decide +kernel
theorem LE_ASB_inflateIfNeededFor : LB M_ASB_inflateIfNeededFor 1 := ⟨q_32, q_1363, ne2_ASB, pe_58⟩
theorem Q_ASB_397 : LW "java/lang/AbstractStringBuilder" 397 M_ASB_inflateIfNeededFor 1 := ⟨LE_ASB_inflateIfNeededFor, q_1360, q_1362⟩
theorem sx_ASB_inflateIfNeededFor : SelX "java/lang/StringBuilder" ⟨"java/lang/AbstractStringBuilder", "inflateIfNeededFor", "(Ljava/lang/String;)V"⟩ := .inr ⟨rfl, by decide +kernel⟩
theorem pe_59 : (parseMethodDescriptor "([BIB)V").map (fun d => d.parameters.length) = some 3 := by decide +kernel
theorem LE_String_getBytes : LB M_String_getBytes 3 := ⟨q_25, q_1387, ne_String, pe_59⟩
theorem Q_ASB_399 : LW "java/lang/AbstractStringBuilder" 399 M_String_getBytes 3 := ⟨LE_String_getBytes, q_1384, q_1385⟩
theorem sx_String_getBytes : SelX "java/lang/String" ⟨"java/lang/String", "getBytes", "([BIB)V"⟩ := .inl q_1386
theorem Q_ASB_40 : LW "java/lang/AbstractStringBuilder" 40 M_String_coder 0 := ⟨LE_String_coder, q_1364, q_485⟩
theorem pe_60 : (parseMethodDescriptor "(I)Ljava/lang/AbstractStringBuilder;").map (fun d => d.parameters.length) = some 1 := by decide +kernel
theorem LE_ASB_append2 : LB M_ASB_append2 1 := ⟨q_32, q_1396, ne2_ASB, pe_60⟩
theorem Q_SB_53 : LW "java/lang/StringBuilder" 53 M_ASB_append2 1 := ⟨LE_ASB_append2, q_1394, q_1395⟩
theorem LE_Integer_stringSize : LB M_Integer_stringSize 1 := ⟨q_28, q_1399, ne_Integer, pe_6⟩
theorem Q_ASB_245 : LQ "java/lang/AbstractStringBuilder" 245 M_Integer_stringSize 1 := ⟨LE_Integer_stringSize, q_1397, q_1398⟩
theorem LE_ASB_isLatin1 : LB M_ASB_isLatin1 0 := ⟨q_32, q_1339, ne2_ASB, pe_2⟩
theorem Q_ASB_83 : LW "java/lang/AbstractStringBuilder" 83 M_ASB_isLatin1 0 := ⟨LE_ASB_isLatin1, q_1335, q_1336⟩
theorem sx_ASB_isLatin1 : SelX "java/lang/StringBuilder" ⟨"java/lang/AbstractStringBuilder", "isLatin1", "()Z"⟩ := .inl q_1338
theorem pe_61 : (parseMethodDescriptor "(II[B)I").map (fun d => d.parameters.length) = some 3 := by decide +kernel
theorem LE_Integer_getChars : LB M_Integer_getChars 3 := ⟨q_28, q_1402, ne_Integer, pe_61⟩
theorem Q_ASB_248 : LQ "java/lang/AbstractStringBuilder" 248 M_Integer_getChars 3 := ⟨LE_Integer_getChars, q_1400, q_1401⟩
theorem pe_62 : (parseMethodDescriptor "(Ljava/lang/StringBuilder;)V").map (fun d => d.parameters.length) = some 1 := by decide +kernel
theorem LE_String_init : LB M_String_init 1 := ⟨q_25, q_1422, ne_String, pe_62⟩
theorem Q_SB_137 : LI "java/lang/StringBuilder" 137 M_String_init 1 := ⟨LE_String_init, q_1420, q_1421, rfl, rfl⟩
theorem pe_63 : (parseMethodDescriptor "(Ljava/lang/AbstractStringBuilder;Ljava/lang/Void;)V").map (fun d => d.parameters.length) = some 2 := by decide +kernel
theorem LE_String_init2 : LB M_String_init2 2 := ⟨q_25, q_1425, ne_String, pe_63⟩
theorem Q_String_489 : LI "java/lang/String" 489 M_String_init2 2 := ⟨LE_String_init2, q_1423, q_1424, rfl, rfl⟩
theorem pe_64 : (parseMethodDescriptor "()[B").map (fun d => d.parameters.length) = some 0 := by decide +kernel
theorem LE_ASB_getValue : LB M_ASB_getValue 0 := ⟨q_32, q_1431, ne2_ASB, pe_64⟩
theorem Q_String_552 : LW "java/lang/String" 552 M_ASB_getValue 0 := ⟨LE_ASB_getValue, q_1427, q_1428⟩
theorem sx_ASB_getValue : SelX "java/lang/StringBuilder" ⟨"java/lang/AbstractStringBuilder", "getValue", "()[B"⟩ := .inl q_1430
theorem LE_ASB_length : LB M_ASB_length 0 := ⟨q_32, q_1439, ne2_ASB, pe_7⟩
theorem LE_SB_length : LB M_SB_length 0 := ⟨q_33, q_1437, ne2_SB, pe_7⟩
theorem Q_String_1047 : LW "java/lang/String" 1047 M_ASB_isLatin1 0 := ⟨LE_ASB_isLatin1, q_1440, q_1336⟩
theorem pe_65 : (parseMethodDescriptor "([BII)[B").map (fun d => d.parameters.length) = some 3 := by decide +kernel
theorem LE_Ars_copyOfRange : LB M_Ars_copyOfRange 3 := ⟨q_10, q_1443, ne_Arrays, pe_65⟩
theorem Q_String_54 : LQ "java/lang/String" 54 M_Ars_copyOfRange 3 := ⟨LE_Ars_copyOfRange, q_1441, q_1442⟩
theorem Q_SB_343 : LW "java/lang/StringBuilder" 343 M_ASB_length 0 := ⟨LE_ASB_length, q_1438, q_1433⟩
theorem LE_Ars_copyOfRangeByte : LB M_Ars_copyOfRangeByte 3 := ⟨q_10, q_1446, ne_Arrays, pe_65⟩
theorem Q_Ars_339 : LQ "java/util/Arrays" 339 M_Ars_copyOfRangeByte 3 := ⟨LE_Ars_copyOfRangeByte, q_1444, q_1445⟩
theorem LE_Ars_checkLength : LB M_Ars_checkLength 2 := ⟨q_10, q_1449, ne_Arrays, pe_31⟩
theorem Q_Ars_343 : LQ "java/util/Arrays" 343 M_Ars_checkLength 2 := ⟨LE_Ars_checkLength, q_1447, q_1448⟩
theorem LE_AL_rangeCheckForAdd : LB M_AL_rangeCheckForAdd 1 := ⟨q_17, q_1775, ne2_AL, pe_24⟩
theorem Q_AL_135 : LW "java/util/ArrayList" 135 M_AL_rangeCheckForAdd 1 := ⟨LE_AL_rangeCheckForAdd, q_1772, q_1774⟩
theorem sx_AL_rangeCheckForAdd : SelX "java/util/ArrayList" ⟨"java/util/ArrayList", "rangeCheckForAdd", "(I)V"⟩ := .inl qs_36
theorem Q_String_505 : LW "java/lang/String" 505 M_String_length 0 := ⟨LE_String_length, q_2049, q_481⟩
theorem Q_String_681 : LW "java/lang/String" 681 M_String_substring2 2 := ⟨LE_String_substring2, q_2050, q_2051⟩
theorem pe_66 : (parseMethodDescriptor "(III)V").map (fun d => d.parameters.length) = some 3 := by decide +kernel
theorem LE_String_checkBoundsBeginEnd : LB M_String_checkBoundsBeginEnd 3 := ⟨q_25, q_1348, ne_String, pe_66⟩
theorem Q_String_521 : LQ "java/lang/String" 521 M_String_checkBoundsBeginEnd 3 := ⟨LE_String_checkBoundsBeginEnd, q_2054, q_1347⟩
theorem pe_67 : (parseMethodDescriptor "([BII)Ljava/lang/String;").map (fun d => d.parameters.length) = some 3 := by decide +kernel
theorem LE_SL_newString : LB M_SL_newString 3 := ⟨q_35, q_2057, ne_StringLatin1, pe_67⟩
theorem Q_String_685 : LQ "java/lang/String" 685 M_SL_newString 3 := ⟨LE_SL_newString, q_2055, q_2056⟩
theorem Q_SL_232 : LQ "java/lang/StringLatin1" 232 M_Ars_copyOfRange 3 := ⟨LE_Ars_copyOfRange, q_2060, q_1442⟩
theorem pe_68 : (parseMethodDescriptor "([BB)V").map (fun d => d.parameters.length) = some 2 := by decide +kernel
theorem LE_String_init3 : LB M_String_init3 2 := ⟨q_25, q_2063, ne_String, pe_68⟩
theorem Q_SL_112 : LI "java/lang/StringLatin1" 112 M_String_init3 2 := ⟨LE_String_init3, q_2061, q_2062, rfl, rfl⟩
theorem pe_69 : (parseMethodDescriptor "([Ljava/lang/Object;I)V").map (fun d => d.parameters.length) = some 2 := by decide +kernel
theorem LE_AL_fastRemove : LB M_AL_fastRemove 2 := ⟨q_17, q_2081, ne2_AL, pe_69⟩
theorem Q_AL_144 : LW "java/util/ArrayList" 144 M_AL_fastRemove 2 := ⟨LE_AL_fastRemove, q_2078, q_2080⟩
theorem sx_AL_fastRemove : SelX "java/util/ArrayList" ⟨"java/util/ArrayList", "fastRemove", "([Ljava/lang/Object;I)V"⟩ := .inl qs_49
theorem pn2_Law : plainName "FlatPlanLaw" = true := by decide +kernel
theorem pn2_LI : plainName "FlatPlanLaw$Item" = true := by decide +kernel
theorem pn2_LP : plainName "FlatPlanLaw$Plan" = true := by decide +kernel
theorem pn2_ASB : plainName "java/lang/AbstractStringBuilder" = true := by decide +kernel
theorem pn2_Integer : plainName "java/lang/Integer" = true := by decide +kernel
theorem pn2_Number : plainName "java/lang/Number" = true := by decide +kernel
theorem pn2_String : plainName "java/lang/String" = true := by decide +kernel
theorem pn2_SB : plainName "java/lang/StringBuilder" = true := by decide +kernel
theorem pn2_SL : plainName "java/lang/StringLatin1" = true := by decide +kernel
theorem pn2_AbC : plainName "java/util/AbstractCollection" = true := by decide +kernel
theorem pn2_AbL : plainName "java/util/AbstractList" = true := by decide +kernel
theorem pn2_AL : plainName "java/util/ArrayList" = true := by decide +kernel
theorem pn2_Itr : plainName "java/util/ArrayList$Itr" = true := by decide +kernel
theorem pn2_Ars : plainName "java/util/Arrays" = true := by decide +kernel
theorem pn2_Objs : plainName "java/util/Objects" = true := by decide +kernel
theorem pn2_ArS : plainName "jdk/internal/util/ArraysSupport" = true := by decide +kernel
theorem pn2_Prec : plainName "jdk/internal/util/Preconditions" = true := by decide +kernel
