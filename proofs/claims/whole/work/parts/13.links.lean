/-! LINKS: what the calls, the fields and the throws of the code lead to -/
theorem ne_FP : "FlatPlan" ≠ "java/lang/invoke/MethodHandle" ∧ "FlatPlan" ≠ "java/lang/invoke/VarHandle" := by decide
theorem pn_FP : plainName "FlatPlan" = true := by decide +kernel
theorem ne_Ads : "FlatPlan$Ads" ≠ "java/lang/invoke/MethodHandle" ∧ "FlatPlan$Ads" ≠ "java/lang/invoke/VarHandle" := by decide
theorem pn_Ads : plainName "FlatPlan$Ads" = true := by decide +kernel
theorem ne_Bytes : "FlatPlan$Bytes" ≠ "java/lang/invoke/MethodHandle" ∧ "FlatPlan$Bytes" ≠ "java/lang/invoke/VarHandle" := by decide
theorem pn_Bytes : plainName "FlatPlan$Bytes" = true := by decide +kernel
theorem ne_Forms : "FlatPlan$Forms" ≠ "java/lang/invoke/MethodHandle" ∧ "FlatPlan$Forms" ≠ "java/lang/invoke/VarHandle" := by decide
theorem pn_Forms : plainName "FlatPlan$Forms" = true := by decide +kernel
theorem ne_History : "FlatPlan$History" ≠ "java/lang/invoke/MethodHandle" ∧ "FlatPlan$History" ≠ "java/lang/invoke/VarHandle" := by decide
theorem pn_History : plainName "FlatPlan$History" = true := by decide +kernel
theorem ne_Plan : "FlatPlan$Plan" ≠ "java/lang/invoke/MethodHandle" ∧ "FlatPlan$Plan" ≠ "java/lang/invoke/VarHandle" := by decide
theorem pn_Plan : plainName "FlatPlan$Plan" = true := by decide +kernel
theorem ne_Reader : "FlatPlan$Reader" ≠ "java/lang/invoke/MethodHandle" ∧ "FlatPlan$Reader" ≠ "java/lang/invoke/VarHandle" := by decide
theorem pn_Reader : plainName "FlatPlan$Reader" = true := by decide +kernel
theorem ne_Searches : "FlatPlan$Searches" ≠ "java/lang/invoke/MethodHandle" ∧ "FlatPlan$Searches" ≠ "java/lang/invoke/VarHandle" := by decide
theorem pn_Searches : plainName "FlatPlan$Searches" = true := by decide +kernel
theorem ne_Standbys : "FlatPlan$Standbys" ≠ "java/lang/invoke/MethodHandle" ∧ "FlatPlan$Standbys" ≠ "java/lang/invoke/VarHandle" := by decide
theorem pn_Standbys : plainName "FlatPlan$Standbys" = true := by decide +kernel
theorem ne_State : "FlatPlan$State" ≠ "java/lang/invoke/MethodHandle" ∧ "FlatPlan$State" ≠ "java/lang/invoke/VarHandle" := by decide
theorem pn_State : plainName "FlatPlan$State" = true := by decide +kernel
theorem ne_Stories : "FlatPlan$Stories" ≠ "java/lang/invoke/MethodHandle" ∧ "FlatPlan$Stories" ≠ "java/lang/invoke/VarHandle" := by decide
theorem pn_Stories : plainName "FlatPlan$Stories" = true := by decide +kernel
theorem ne_Law : "FlatPlanLaw" ≠ "java/lang/invoke/MethodHandle" ∧ "FlatPlanLaw" ≠ "java/lang/invoke/VarHandle" := by decide
theorem pn_Law : plainName "FlatPlanLaw" = true := by decide +kernel
theorem ne_Mo : "FlatPlanModel" ≠ "java/lang/invoke/MethodHandle" ∧ "FlatPlanModel" ≠ "java/lang/invoke/VarHandle" := by decide
theorem pn_Mo : plainName "FlatPlanModel" = true := by decide +kernel
theorem ne_Integer : "java/lang/Integer" ≠ "java/lang/invoke/MethodHandle" ∧ "java/lang/Integer" ≠ "java/lang/invoke/VarHandle" := by decide
theorem pn_Integer : plainName "java/lang/Integer" = true := by decide +kernel
theorem ne_Math : "java/lang/Math" ≠ "java/lang/invoke/MethodHandle" ∧ "java/lang/Math" ≠ "java/lang/invoke/VarHandle" := by decide
theorem ne_Object : "java/lang/Object" ≠ "java/lang/invoke/MethodHandle" ∧ "java/lang/Object" ≠ "java/lang/invoke/VarHandle" := by decide
theorem ne_String : "java/lang/String" ≠ "java/lang/invoke/MethodHandle" ∧ "java/lang/String" ≠ "java/lang/invoke/VarHandle" := by decide
theorem pn_String : plainName "java/lang/String" = true := by decide +kernel
theorem ne_StringLatin1 : "java/lang/StringLatin1" ≠ "java/lang/invoke/MethodHandle" ∧ "java/lang/StringLatin1" ≠ "java/lang/invoke/VarHandle" := by decide
theorem pn_StringLatin1 : plainName "java/lang/StringLatin1" = true := by decide +kernel
theorem ne_Arrays : "java/util/Arrays" ≠ "java/lang/invoke/MethodHandle" ∧ "java/util/Arrays" ≠ "java/lang/invoke/VarHandle" := by decide
theorem pn_Arrays : plainName "java/util/Arrays" = true := by decide +kernel
theorem ne_Preconditions : "jdk/internal/util/Preconditions" ≠ "java/lang/invoke/MethodHandle" ∧ "jdk/internal/util/Preconditions" ≠ "java/lang/invoke/VarHandle" := by decide
theorem pn_Preconditions : plainName "jdk/internal/util/Preconditions" = true := by decide +kernel
theorem pd_0 : (parseMethodDescriptor "()V").map (fun d => d.parameters.length) = some 0 := by decide +kernel
theorem pd_1 : (parseMethodDescriptor "(I)V").map (fun d => d.parameters.length) = some 1 := by decide +kernel
theorem pd_2 : (parseMethodDescriptor "(II)V").map (fun d => d.parameters.length) = some 2 := by decide +kernel
theorem pd_3 : (parseMethodDescriptor "([II)V").map (fun d => d.parameters.length) = some 2 := by decide +kernel
theorem pd_4 : (parseMethodDescriptor "(I)Z").map (fun d => d.parameters.length) = some 1 := by decide +kernel
theorem pd_5 : (parseMethodDescriptor "()I").map (fun d => d.parameters.length) = some 0 := by decide +kernel
theorem pd_6 : (parseMethodDescriptor "(LFlatPlan$State;)V").map (fun d => d.parameters.length) = some 1 := by decide +kernel
theorem pd_7 : (parseMethodDescriptor "(Ljava/lang/String;)Z").map (fun d => d.parameters.length) = some 1 := by decide +kernel
theorem pd_8 : (parseMethodDescriptor "()Z").map (fun d => d.parameters.length) = some 0 := by decide +kernel
theorem pd_9 : (parseMethodDescriptor "(I)I").map (fun d => d.parameters.length) = some 1 := by decide +kernel
theorem pd_10 : (parseMethodDescriptor "(I)C").map (fun d => d.parameters.length) = some 1 := by decide +kernel
theorem pd_11 : (parseMethodDescriptor "(III)Z").map (fun d => d.parameters.length) = some 3 := by decide +kernel
theorem pd_12 : (parseMethodDescriptor "(IIII)I").map (fun d => d.parameters.length) = some 4 := by decide +kernel
theorem pd_13 : (parseMethodDescriptor "(IIII)V").map (fun d => d.parameters.length) = some 4 := by decide +kernel
theorem pd_14 : (parseMethodDescriptor "(II)I").map (fun d => d.parameters.length) = some 2 := by decide +kernel
theorem pd_15 : (parseMethodDescriptor "(II)Z").map (fun d => d.parameters.length) = some 2 := by decide +kernel
theorem pd_16 : (parseMethodDescriptor "(LFlatPlan$Ads;)V").map (fun d => d.parameters.length) = some 1 := by decide +kernel
theorem pd_17 : (parseMethodDescriptor "(LFlatPlan$Stories;)V").map (fun d => d.parameters.length) = some 1 := by decide +kernel
theorem pd_18 : (parseMethodDescriptor "(LFlatPlan$Standbys;)V").map (fun d => d.parameters.length) = some 1 := by decide +kernel
theorem pd_19 : (parseMethodDescriptor "(LFlatPlan$Forms;)V").map (fun d => d.parameters.length) = some 1 := by decide +kernel
theorem pd_20 : (parseMethodDescriptor "([II)I").map (fun d => d.parameters.length) = some 2 := by decide +kernel
theorem pd_21 : (parseMethodDescriptor "(III)I").map (fun d => d.parameters.length) = some 3 := by decide +kernel
theorem pd_22 : (parseMethodDescriptor "(LFlatPlan$Plan;)Z").map (fun d => d.parameters.length) = some 1 := by decide +kernel
theorem pd_23 : (parseMethodDescriptor "(IZI)Z").map (fun d => d.parameters.length) = some 3 := by decide +kernel
theorem pd_24 : (parseMethodDescriptor "([III)I").map (fun d => d.parameters.length) = some 3 := by decide +kernel
theorem pd_25 : (parseMethodDescriptor "(IZ)Z").map (fun d => d.parameters.length) = some 2 := by decide +kernel
theorem pd_26 : (parseMethodDescriptor "()D").map (fun d => d.parameters.length) = some 0 := by decide +kernel
theorem pd_27 : (parseMethodDescriptor "(CI)V").map (fun d => d.parameters.length) = some 2 := by decide +kernel
theorem pd_28 : (parseMethodDescriptor "(ZI)Z").map (fun d => d.parameters.length) = some 2 := by decide +kernel
theorem pd_29 : (parseMethodDescriptor "(JJJ)Z").map (fun d => d.parameters.length) = some 3 := by decide +kernel
theorem pd_30 : (parseMethodDescriptor "(III)V").map (fun d => d.parameters.length) = some 3 := by decide +kernel
theorem pd_31 : (parseMethodDescriptor "(IIIII)J").map (fun d => d.parameters.length) = some 5 := by decide +kernel
theorem pd_32 : (parseMethodDescriptor "(J)Z").map (fun d => d.parameters.length) = some 1 := by decide +kernel
theorem pd_33 : (parseMethodDescriptor "(Z)Z").map (fun d => d.parameters.length) = some 1 := by decide +kernel
theorem pd_34 : (parseMethodDescriptor "()B").map (fun d => d.parameters.length) = some 0 := by decide +kernel
theorem pd_35 : (parseMethodDescriptor "([BI)C").map (fun d => d.parameters.length) = some 2 := by decide +kernel
theorem pd_36 : (parseMethodDescriptor "(IILjava/util/function/BiFunction;)I").map (fun d => d.parameters.length) = some 3 := by decide +kernel
theorem pd_37 : (parseMethodDescriptor "(IIIII)I").map (fun d => d.parameters.length) = some 5 := by decide +kernel
theorem pd_38 : (parseMethodDescriptor "(LFlatPlan;IIII[J)I").map (fun d => d.parameters.length) = some 6 := by decide +kernel
theorem pd_39 : (parseMethodDescriptor "(LFlatPlan;IZI[J)I").map (fun d => d.parameters.length) = some 5 := by decide +kernel
theorem pd_40 : (parseMethodDescriptor "(LFlatPlan;II[J)I").map (fun d => d.parameters.length) = some 4 := by decide +kernel
theorem pd_41 : (parseMethodDescriptor "(LFlatPlan;I[J)I").map (fun d => d.parameters.length) = some 3 := by decide +kernel
theorem pd_42 : (parseMethodDescriptor "(LFlatPlan;IZ[J)I").map (fun d => d.parameters.length) = some 4 := by decide +kernel
theorem pd_43 : (parseMethodDescriptor "(LFlatPlan;[D)I").map (fun d => d.parameters.length) = some 2 := by decide +kernel
theorem LB_Reader_init : LB M_Reader_init 0 := ⟨q_2, q_40, ne_Reader, pd_0⟩
theorem LB_Searches_init : LB M_Searches_init 0 := ⟨q_12, q_364, ne_Searches, pd_0⟩
theorem LB_History_init : LB M_History_init 0 := ⟨q_13, q_404, ne_History, pd_0⟩
theorem LB_Bytes_init : LB M_Bytes_init 1 := ⟨q_3, q_46, ne_Bytes, pd_1⟩
theorem LB_Plan_init : LB M_Plan_init 0 := ⟨q_4, q_62, ne_Plan, pd_0⟩
theorem LB_State_init : LB M_State_init 0 := ⟨q_5, q_68, ne_State, pd_0⟩
theorem LB_Plan_begin : LB M_Plan_begin 2 := ⟨q_4, q_271, ne_Plan, pd_2⟩
theorem LB_Ads_init : LB M_Ads_init 0 := ⟨q_6, q_74, ne_Ads, pd_0⟩
theorem LB_Stories_init : LB M_Stories_init 0 := ⟨q_7, q_131, ne_Stories, pd_0⟩
theorem LB_Standbys_init : LB M_Standbys_init 0 := ⟨q_8, q_175, ne_Standbys, pd_0⟩
theorem LB_Forms_init : LB M_Forms_init 0 := ⟨q_9, q_198, ne_Forms, pd_0⟩
theorem LB_Arrays_fill : LB M_Arrays_fill 2 := ⟨q_10, q_274, ne_Arrays, pd_3⟩
theorem LB_Plan_layOut : LB M_Plan_layOut 0 := ⟨q_4, q_278, ne_Plan, pd_0⟩
theorem LB_Plan_recount : LB M_Plan_recount 0 := ⟨q_4, q_285, ne_Plan, pd_0⟩
theorem LB_Plan_hasPage : LB M_Plan_hasPage 1 := ⟨q_4, q_289, ne_Plan, pd_4⟩
theorem LB_Bytes_addWord : LB M_Bytes_addWord 1 := ⟨q_3, q_448, ne_Bytes, pd_1⟩
theorem LB_Bytes_addByte : LB M_Bytes_addByte 1 := ⟨q_3, q_452, ne_Bytes, pd_1⟩
theorem LB_Reader_readText : LB M_Reader_readText 0 := ⟨q_2, q_464, ne_Reader, pd_5⟩
theorem LB_Plan_become : LB M_Plan_become 1 := ⟨q_4, q_649, ne_Plan, pd_6⟩
theorem LB_History_forget : LB M_History_forget 0 := ⟨q_13, q_679, ne_History, pd_0⟩
theorem LB_Reader_nextToken : LB M_Reader_nextToken 0 := ⟨q_2, q_469, ne_Reader, pd_0⟩
theorem LB_Reader_isWord : LB M_Reader_isWord 1 := ⟨q_2, q_484, ne_Reader, pd_7⟩
theorem LB_Reader_readPlan : LB M_Reader_readPlan 0 := ⟨q_2, q_536, ne_Reader, pd_8⟩
theorem LB_Reader_readStatement : LB M_Reader_readStatement 0 := ⟨q_2, q_556, ne_Reader, pd_8⟩
theorem LB_Bytes_byteAt : LB M_Bytes_byteAt 1 := ⟨q_3, q_473, ne_Bytes, pd_9⟩
theorem LB_Reader_isLetter : LB M_Reader_isLetter 1 := ⟨q_2, q_476, ne_Reader, pd_4⟩
theorem LB_Reader_isDigit : LB M_Reader_isDigit 1 := ⟨q_2, q_479, ne_Reader, pd_4⟩
theorem LB_String_length : LB M_String_length 0 := ⟨q_15, q_488, ne_String, pd_5⟩
theorem LB_String_charAt : LB M_String_charAt 1 := ⟨q_15, q_498, ne_String, pd_10⟩
theorem LB_Reader_readNumber : LB M_Reader_readNumber 3 := ⟨q_2, q_540, ne_Reader, pd_11⟩
theorem LB_Reader_fail : LB M_Reader_fail 1 := ⟨q_2, q_544, ne_Reader, pd_4⟩
theorem LB_Reader_readSemicolon : LB M_Reader_readSemicolon 0 := ⟨q_2, q_552, ne_Reader, pd_8⟩
theorem LB_Reader_numberRead : LB M_Reader_numberRead 0 := ⟨q_2, q_548, ne_Reader, pd_5⟩
theorem LB_Reader_readColor : LB M_Reader_readColor 0 := ⟨q_2, q_561, ne_Reader, pd_8⟩
theorem LB_Reader_readAd : LB M_Reader_readAd 0 := ⟨q_2, q_566, ne_Reader, pd_8⟩
theorem LB_Reader_readStory : LB M_Reader_readStory 0 := ⟨q_2, q_582, ne_Reader, pd_8⟩
theorem LB_Reader_readStandby : LB M_Reader_readStandby 0 := ⟨q_2, q_591, ne_Reader, pd_8⟩
theorem LB_Reader_readClose : LB M_Reader_readClose 0 := ⟨q_2, q_600, ne_Reader, pd_8⟩
theorem LB_Reader_readPut : LB M_Reader_readPut 0 := ⟨q_2, q_605, ne_Reader, pd_8⟩
theorem LB_Reader_readLay : LB M_Reader_readLay 0 := ⟨q_2, q_634, ne_Reader, pd_8⟩
theorem LB_Reader_firstIsSize : LB M_Reader_firstIsSize 0 := ⟨q_2, q_570, ne_Reader, pd_8⟩
theorem LB_Ads_add : LB M_Ads_add 4 := ⟨q_6, q_577, ne_Ads, pd_12⟩
theorem LB_FP_isSize : LB M_FP_isSize 1 := ⟨q_1, q_573, ne_FP, pd_4⟩
theorem LB_Stories_add : LB M_Stories_add 4 := ⟨q_7, q_586, ne_Stories, pd_13⟩
theorem LB_Standbys_add : LB M_Standbys_add 1 := ⟨q_8, q_595, ne_Standbys, pd_1⟩
theorem LB_Plan_adReason : LB M_Plan_adReason 2 := ⟨q_4, q_609, ne_Plan, pd_14⟩
theorem LB_Plan_isPrinted : LB M_Plan_isPrinted 1 := ⟨q_4, q_613, ne_Plan, pd_4⟩
theorem LB_Plan_roomFor : LB M_Plan_roomFor 2 := ⟨q_4, q_617, ne_Plan, pd_14⟩
theorem LB_Plan_lacksColor : LB M_Plan_lacksColor 2 := ⟨q_4, q_621, ne_Plan, pd_15⟩
theorem LB_Plan_isWrongSide : LB M_Plan_isWrongSide 2 := ⟨q_4, q_624, ne_Plan, pd_15⟩
theorem LB_Plan_meetsRival : LB M_Plan_meetsRival 2 := ⟨q_4, q_628, ne_Plan, pd_15⟩
theorem LB_Plan_layReason : LB M_Plan_layReason 2 := ⟨q_4, q_638, ne_Plan, pd_14⟩
theorem LB_Plan_pageReason : LB M_Plan_pageReason 2 := ⟨q_4, q_642, ne_Plan, pd_14⟩
theorem LB_Plan_lowerReason : LB M_Plan_lowerReason 2 := ⟨q_4, q_645, ne_Plan, pd_14⟩
theorem LB_State_copyFrom : LB M_State_copyFrom 1 := ⟨q_5, q_653, ne_State, pd_6⟩
theorem LB_Ads_copyFrom : LB M_Ads_copyFrom 1 := ⟨q_6, q_657, ne_Ads, pd_16⟩
theorem LB_Stories_copyFrom : LB M_Stories_copyFrom 1 := ⟨q_7, q_664, ne_Stories, pd_17⟩
theorem LB_Standbys_copyFrom : LB M_Standbys_copyFrom 1 := ⟨q_8, q_669, ne_Standbys, pd_18⟩
theorem LB_Forms_copyFrom : LB M_Forms_copyFrom 1 := ⟨q_9, q_674, ne_Forms, pd_19⟩
theorem LB_FP_placed : LB M_FP_placed 2 := ⟨q_1, q_695, ne_FP, pd_20⟩
theorem LB_Plan_soonestForm : LB M_Plan_soonestForm 0 := ⟨q_4, q_703, ne_Plan, pd_5⟩
theorem LB_History_keep : LB M_History_keep 1 := ⟨q_13, q_711, ne_History, pd_6⟩
theorem LB_Searches_placeFreeAds : LB M_Searches_placeFreeAds 0 := ⟨q_12, q_717, ne_Searches, pd_5⟩
theorem LB_Searches_insertAd : LB M_Searches_insertAd 2 := ⟨q_12, q_721, ne_Searches, pd_2⟩
theorem LB_Plan_firstFor : LB M_Plan_firstFor 2 := ⟨q_4, q_729, ne_Plan, pd_14⟩
theorem LB_Searches_comesBefore : LB M_Searches_comesBefore 2 := ⟨q_12, q_725, ne_Searches, pd_15⟩
theorem LB_Searches_layFreeStories : LB M_Searches_layFreeStories 0 := ⟨q_12, q_742, ne_Searches, pd_5⟩
theorem LB_Searches_layFirst : LB M_Searches_layFirst 1 := ⟨q_12, q_746, ne_Searches, pd_4⟩
theorem LB_Searches_tightestAd : LB M_Searches_tightestAd 0 := ⟨q_12, q_755, ne_Searches, pd_5⟩
theorem LB_Searches_pagesFor : LB M_Searches_pagesFor 1 := ⟨q_12, q_759, ne_Searches, pd_9⟩
theorem LB_Searches_matchedAds : LB M_Searches_matchedAds 0 := ⟨q_12, q_768, ne_Searches, pd_5⟩
theorem LB_Searches_matchOneMore : LB M_Searches_matchOneMore 1 := ⟨q_12, q_773, ne_Searches, pd_4⟩
theorem LB_Searches_mayMatch : LB M_Searches_mayMatch 2 := ⟨q_12, q_777, ne_Searches, pd_15⟩
theorem LB_Searches_changePartners : LB M_Searches_changePartners 1 := ⟨q_12, q_781, ne_Searches, pd_1⟩
theorem LB_Searches_bestExchange : LB M_Searches_bestExchange 0 := ⟨q_12, q_789, ne_Searches, pd_5⟩
theorem LB_Searches_countColorPages : LB M_Searches_countColorPages 0 := ⟨q_12, q_793, ne_Searches, pd_0⟩
theorem LB_Searches_fewerColorForms : LB M_Searches_fewerColorForms 2 := ⟨q_12, q_798, ne_Searches, pd_14⟩
theorem LB_Plan_exchangeReason : LB M_Plan_exchangeReason 2 := ⟨q_4, q_805, ne_Plan, pd_14⟩
theorem LB_Searches_oneIfAny : LB M_Searches_oneIfAny 1 := ⟨q_12, q_801, ne_Searches, pd_9⟩
theorem LB_Plan_exchangedReason : LB M_Plan_exchangedReason 3 := ⟨q_4, q_809, ne_Plan, pd_21⟩
theorem LB_Plan_exchanged : LB M_Plan_exchanged 3 := ⟨q_4, q_812, ne_Plan, pd_21⟩
theorem LB_Ads_areRivals : LB M_Ads_areRivals 2 := ⟨q_6, q_816, ne_Ads, pd_15⟩
theorem LB_Searches_lateItemAt : LB M_Searches_lateItemAt 1 := ⟨q_12, q_824, ne_Searches, pd_9⟩
theorem LB_Searches_nextLateRank : LB M_Searches_nextLateRank 1 := ⟨q_12, q_828, ne_Searches, pd_9⟩
theorem LB_Searches_adIsOpen : LB M_Searches_adIsOpen 1 := ⟨q_12, q_832, ne_Searches, pd_4⟩
theorem LB_Plan_isLate : LB M_Plan_isLate 1 := ⟨q_4, q_837, ne_Plan, pd_4⟩
theorem LB_Searches_rankOf : LB M_Searches_rankOf 2 := ⟨q_12, q_840, ne_Searches, pd_14⟩
theorem LB_Searches_nearerRank : LB M_Searches_nearerRank 3 := ⟨q_12, q_843, ne_Searches, pd_21⟩
theorem LB_Plan_storyIsOpen : LB M_Plan_storyIsOpen 1 := ⟨q_4, q_847, ne_Plan, pd_4⟩
theorem LB_Plan_storyIsOnFormThat : LB M_Plan_storyIsOnFormThat 2 := ⟨q_4, q_851, ne_Plan, pd_15⟩
theorem LB_Plan_storyIsOn : LB M_Plan_storyIsOn 2 := ⟨q_4, q_855, ne_Plan, pd_15⟩
theorem LB_Plan_formAt : LB M_Plan_formAt 1 := ⟨q_4, q_859, ne_Plan, pd_9⟩
theorem LB_Searches_readyLast : LB M_Searches_readyLast 0 := ⟨q_12, q_867, ne_Searches, pd_5⟩
theorem LB_History_bringBack : LB M_History_bringBack 1 := ⟨q_13, q_913, ne_History, pd_22⟩
theorem LB_FP_addAd : LB M_FP_addAd 4 := ⟨q_1, q_926, ne_FP, pd_12⟩
theorem LB_FP_isPrice : LB M_FP_isPrice 1 := ⟨q_1, q_930, ne_FP, pd_4⟩
theorem LB_FP_setAd : LB M_FP_setAd 3 := ⟨q_1, q_1030, ne_FP, pd_23⟩
theorem LB_FP_needAd : LB M_FP_needAd 1 := ⟨q_1, q_1034, ne_FP, pd_1⟩
theorem LB_FP_setPrice : LB M_FP_setPrice 2 := ⟨q_1, q_1055, ne_FP, pd_14⟩
theorem LB_FP_ad : LB M_FP_ad 2 := ⟨q_1, q_1063, ne_FP, pd_14⟩
theorem LB_FP_orNone : LB M_FP_orNone 1 := ⟨q_1, q_1066, ne_FP, pd_9⟩
theorem LB_FP_story : LB M_FP_story 2 := ⟨q_1, q_1074, ne_FP, pd_14⟩
theorem LB_FP_needStory : LB M_FP_needStory 1 := ⟨q_1, q_1078, ne_FP, pd_1⟩
theorem LB_FP_standby : LB M_FP_standby 2 := ⟨q_1, q_1086, ne_FP, pd_14⟩
theorem LB_FP_needStandby : LB M_FP_needStandby 1 := ⟨q_1, q_1090, ne_FP, pd_1⟩
theorem LB_FP_page : LB M_FP_page 2 := ⟨q_1, q_1098, ne_FP, pd_14⟩
theorem LB_FP_needPage : LB M_FP_needPage 1 := ⟨q_1, q_1102, ne_FP, pd_1⟩
theorem LB_FP_standing : LB M_FP_standing 3 := ⟨q_1, q_1107, ne_FP, pd_24⟩
theorem LB_FP_adOn : LB M_FP_adOn 2 := ⟨q_1, q_1114, ne_FP, pd_14⟩
theorem LB_FP_form : LB M_FP_form 2 := ⟨q_1, q_1121, ne_FP, pd_14⟩
theorem LB_FP_needForm : LB M_FP_needForm 1 := ⟨q_1, q_1125, ne_FP, pd_1⟩
theorem LB_Plan_leftOnForm : LB M_Plan_leftOnForm 1 := ⟨q_4, q_1130, ne_Plan, pd_9⟩
theorem LB_Plan_adsOnForm : LB M_Plan_adsOnForm 1 := ⟨q_4, q_1134, ne_Plan, pd_9⟩
theorem LB_Plan_lateOnForm : LB M_Plan_lateOnForm 1 := ⟨q_4, q_1138, ne_Plan, pd_9⟩
theorem LB_Plan_hasColorItem : LB M_Plan_hasColorItem 1 := ⟨q_4, q_1143, ne_Plan, pd_4⟩
theorem LB_FP_pageOf : LB M_FP_pageOf 2 := ⟨q_1, q_1150, ne_FP, pd_14⟩
theorem LB_FP_reason : LB M_FP_reason 2 := ⟨q_1, q_1157, ne_FP, pd_14⟩
theorem LB_FP_storyReason : LB M_FP_storyReason 2 := ⟨q_1, q_1165, ne_FP, pd_14⟩
theorem LB_FP_put : LB M_FP_put 2 := ⟨q_1, q_1173, ne_FP, pd_14⟩
theorem LB_FP_lay : LB M_FP_lay 2 := ⟨q_1, q_1182, ne_FP, pd_14⟩
theorem LB_Plan_storyIsPrinted : LB M_Plan_storyIsPrinted 1 := ⟨q_4, q_1186, ne_Plan, pd_4⟩
theorem LB_FP_take : LB M_FP_take 1 := ⟨q_1, q_1193, ne_FP, pd_4⟩
theorem LB_FP_takeStory : LB M_FP_takeStory 1 := ⟨q_1, q_1200, ne_FP, pd_4⟩
theorem LB_FP_use : LB M_FP_use 2 := ⟨q_1, q_1207, ne_FP, pd_14⟩
theorem LB_Plan_useReason : LB M_Plan_useReason 2 := ⟨q_4, q_1211, ne_Plan, pd_14⟩
theorem LB_FP_clear : LB M_FP_clear 1 := ⟨q_1, q_1218, ne_FP, pd_9⟩
theorem LB_FP_exchange : LB M_FP_exchange 2 := ⟨q_1, q_1225, ne_FP, pd_14⟩
theorem LB_FP_setColor : LB M_FP_setColor 2 := ⟨q_1, q_1234, ne_FP, pd_25⟩
theorem LB_FP_setClosing : LB M_FP_setClosing 2 := ⟨q_1, q_1241, ne_FP, pd_14⟩
theorem LB_Plan_closeDueForms : LB M_Plan_closeDueForms 0 := ⟨q_4, q_1246, ne_Plan, pd_5⟩
theorem LB_Plan_closeForm : LB M_Plan_closeForm 1 := ⟨q_4, q_1251, ne_Plan, pd_1⟩
theorem LB_Plan_replaceLateAds : LB M_Plan_replaceLateAds 1 := ⟨q_4, q_1255, ne_Plan, pd_1⟩
theorem LB_Standbys_unused : LB M_Standbys_unused 1 := ⟨q_8, q_1259, ne_Standbys, pd_9⟩
theorem LB_FP_pass : LB M_FP_pass 1 := ⟨q_1, q_1266, ne_FP, pd_9⟩
theorem LB_FP_print : LB M_FP_print 1 := ⟨q_1, q_1274, ne_FP, pd_9⟩
theorem LB_FP_choices : LB M_FP_choices 1 := ⟨q_1, q_1281, ne_FP, pd_9⟩
theorem LB_FP_firstPage : LB M_FP_firstPage 2 := ⟨q_1, q_1289, ne_FP, pd_14⟩
theorem LB_FP_eviction : LB M_FP_eviction 2 := ⟨q_1, q_1297, ne_FP, pd_14⟩
theorem LB_Searches_evictedPrices : LB M_Searches_evictedPrices 2 := ⟨q_12, q_1301, ne_Searches, pd_14⟩
theorem LB_Plan_isUnfit : LB M_Plan_isUnfit 2 := ⟨q_4, q_1305, ne_Plan, pd_15⟩
theorem LB_Searches_rivalPricesBeside : LB M_Searches_rivalPricesBeside 2 := ⟨q_12, q_1309, ne_Searches, pd_14⟩
theorem LB_Searches_pricesForRoom : LB M_Searches_pricesForRoom 2 := ⟨q_12, q_1314, ne_Searches, pd_14⟩
theorem LB_Searches_removedPrices : LB M_Searches_removedPrices 4 := ⟨q_12, q_1318, ne_Searches, pd_12⟩
theorem LB_FP_cheapestPage : LB M_FP_cheapestPage 1 := ⟨q_1, q_1326, ne_FP, pd_9⟩
theorem LB_Searches_cheapestFor : LB M_Searches_cheapestFor 1 := ⟨q_12, q_1330, ne_Searches, pd_9⟩
theorem LB_FP_bestColor : LB M_FP_bestColor 1 := ⟨q_1, q_1338, ne_FP, pd_9⟩
theorem LB_Searches_roomiestForms : LB M_Searches_roomiestForms 1 := ⟨q_12, q_1343, ne_Searches, pd_9⟩
theorem LB_Integer_bitCount : LB M_Integer_bitCount 1 := ⟨q_26, q_1346, ne_Integer, pd_9⟩
theorem LB_Searches_leftOnSet : LB M_Searches_leftOnSet 1 := ⟨q_12, q_1353, ne_Searches, pd_9⟩
theorem LB_FP_groupOn : LB M_FP_groupOn 2 := ⟨q_1, q_1361, ne_FP, pd_14⟩
theorem LB_FP_needGroup : LB M_FP_needGroup 1 := ⟨q_1, q_1364, ne_FP, pd_1⟩
theorem LB_FP_spreadsOf : LB M_FP_spreadsOf 1 := ⟨q_1, q_1373, ne_FP, pd_9⟩
theorem LB_FP_revenueOf : LB M_FP_revenueOf 1 := ⟨q_1, q_1380, ne_FP, pd_9⟩
theorem LB_FP_revenueOfGroup : LB M_FP_revenueOfGroup 1 := ⟨q_1, q_1387, ne_FP, pd_9⟩
theorem LB_FP_emptyRun : LB M_FP_emptyRun 1 := ⟨q_1, q_1394, ne_FP, pd_9⟩
theorem LB_FP_quarterPrice : LB M_FP_quarterPrice 0 := ⟨q_1, q_1416, ne_FP, pd_26⟩
theorem LB_FP_revenue : LB M_FP_revenue 0 := ⟨q_1, q_883, ne_FP, pd_5⟩
theorem LB_FP_describe : LB M_FP_describe 1 := ⟨q_1, q_1427, ne_FP, pd_9⟩
theorem LB_Bytes_addItem : LB M_Bytes_addItem 2 := ⟨q_3, q_1431, ne_Bytes, pd_27⟩
theorem LB_Mo_clearBlock : LB M_Mo_clearBlock 1 := ⟨q_14, q_1441, ne_Mo, pd_1⟩
theorem LB_Mo_copyBlock : LB M_Mo_copyBlock 2 := ⟨q_14, q_1521, ne_Mo, pd_2⟩
theorem LB_Mo_isAd : LB M_Mo_isAd 1 := ⟨q_14, q_1533, ne_Mo, pd_4⟩
theorem LB_Mo_throwsIf : LB M_Mo_throwsIf 2 := ⟨q_14, q_1540, ne_Mo, pd_28⟩
theorem LB_Mo_reasonOf : LB M_Mo_reasonOf 2 := ⟨q_14, q_1544, ne_Mo, pd_14⟩
theorem LB_Mo_inRange : LB M_Mo_inRange 3 := ⟨q_14, q_1536, ne_Mo, pd_29⟩
theorem LB_Mo_isPage : LB M_Mo_isPage 1 := ⟨q_14, q_1548, ne_Mo, pd_4⟩
theorem LB_Mo_isPrinted : LB M_Mo_isPrinted 1 := ⟨q_14, q_1556, ne_Mo, pd_4⟩
theorem LB_Mo_leftOn : LB M_Mo_leftOn 3 := ⟨q_14, q_1568, ne_Mo, pd_21⟩
theorem LB_Mo_ofAd : LB M_Mo_ofAd 2 := ⟨q_14, q_1588, ne_Mo, pd_14⟩
theorem LB_Mo_hasColor : LB M_Mo_hasColor 1 := ⟨q_14, q_1596, ne_Mo, pd_4⟩
theorem LB_Mo_isOnSide : LB M_Mo_isOnSide 2 := ⟨q_14, q_1599, ne_Mo, pd_15⟩
theorem LB_Mo_hasRival : LB M_Mo_hasRival 2 := ⟨q_14, q_1603, ne_Mo, pd_15⟩
theorem LB_Mo_pageMany : LB M_Mo_pageMany 0 := ⟨q_14, q_1552, ne_Mo, pd_5⟩
theorem LB_Mo_formOf : LB M_Mo_formOf 1 := ⟨q_14, q_1560, ne_Mo, pd_9⟩
theorem LB_Mo_ofForm : LB M_Mo_ofForm 2 := ⟨q_14, q_1564, ne_Mo, pd_14⟩
theorem LB_Mo_storyOn : LB M_Mo_storyOn 2 := ⟨q_14, q_1572, ne_Mo, pd_14⟩
theorem LB_Mo_roomOn : LB M_Mo_roomOn 3 := ⟨q_14, q_1584, ne_Mo, pd_21⟩
theorem LB_Mo_covers : LB M_Mo_covers 2 := ⟨q_14, q_1576, ne_Mo, pd_15⟩
theorem LB_Mo_ofStory : LB M_Mo_ofStory 2 := ⟨q_14, q_1580, ne_Mo, pd_14⟩
theorem LB_Mo_ofStandby : LB M_Mo_ofStandby 2 := ⟨q_14, q_1592, ne_Mo, pd_14⟩
theorem LB_Mo_isStory : LB M_Mo_isStory 1 := ⟨q_14, q_1611, ne_Mo, pd_4⟩
theorem LB_Mo_storyReasonOf : LB M_Mo_storyReasonOf 2 := ⟨q_14, q_1615, ne_Mo, pd_14⟩
theorem LB_Mo_formMany : LB M_Mo_formMany 0 := ⟨q_14, q_1624, ne_Mo, pd_5⟩
theorem LB_Mo_placedAds : LB M_Mo_placedAds 0 := ⟨q_14, q_1628, ne_Mo, pd_5⟩
theorem LB_Mo_placedStories : LB M_Mo_placedStories 0 := ⟨q_14, q_1632, ne_Mo, pd_5⟩
theorem LB_Mo_usedStandbys : LB M_Mo_usedStandbys 0 := ⟨q_14, q_1636, ne_Mo, pd_5⟩
theorem LB_Mo_formsWith : LB M_Mo_formsWith 1 := ⟨q_14, q_1640, ne_Mo, pd_9⟩
theorem LB_Mo_isSize : LB M_Mo_isSize 1 := ⟨q_14, q_1647, ne_Mo, pd_4⟩
theorem LB_Mo_record : LB M_Mo_record 0 := ⟨q_14, q_1654, ne_Mo, pd_0⟩
theorem LB_Mo_setOfAd : LB M_Mo_setOfAd 3 := ⟨q_14, q_1658, ne_Mo, pd_30⟩
theorem LB_Mo_toldPage : LB M_Mo_toldPage 1 := ⟨q_14, q_1675, ne_Mo, pd_9⟩
theorem LB_Mo_isAdLate : LB M_Mo_isAdLate 1 := ⟨q_14, q_1679, ne_Mo, pd_4⟩
theorem LB_Mo_isStoryLate : LB M_Mo_isStoryLate 1 := ⟨q_14, q_1688, ne_Mo, pd_4⟩
theorem LB_Mo_isStandby : LB M_Mo_isStandby 1 := ⟨q_14, q_1696, ne_Mo, pd_4⟩
theorem LB_Mo_left : LB M_Mo_left 1 := ⟨q_14, q_1704, ne_Mo, pd_9⟩
theorem LB_Mo_adsOn : LB M_Mo_adsOn 1 := ⟨q_14, q_1708, ne_Mo, pd_9⟩
theorem LB_Mo_standbysOn : LB M_Mo_standbysOn 1 := ⟨q_14, q_1712, ne_Mo, pd_9⟩
theorem LB_Mo_isForm : LB M_Mo_isForm 1 := ⟨q_14, q_1724, ne_Mo, pd_4⟩
theorem LB_Mo_leftOnForm : LB M_Mo_leftOnForm 1 := ⟨q_14, q_1728, ne_Mo, pd_9⟩
theorem LB_Mo_adsOnForm : LB M_Mo_adsOnForm 1 := ⟨q_14, q_1732, ne_Mo, pd_9⟩
theorem LB_Mo_lateOnForm : LB M_Mo_lateOnForm 1 := ⟨q_14, q_1740, ne_Mo, pd_9⟩
theorem LB_Mo_hasColored : LB M_Mo_hasColored 1 := ⟨q_14, q_1748, ne_Mo, pd_4⟩
theorem LB_Mo_isAdOnForm : LB M_Mo_isAdOnForm 2 := ⟨q_14, q_1736, ne_Mo, pd_15⟩
theorem LB_Mo_hasPageOn : LB M_Mo_hasPageOn 2 := ⟨q_14, q_1744, ne_Mo, pd_15⟩
theorem LB_Mo_isStoryPrinted : LB M_Mo_isStoryPrinted 1 := ⟨q_14, q_1764, ne_Mo, pd_4⟩
theorem LB_Mo_setStandby : LB M_Mo_setStandby 2 := ⟨q_14, q_1780, ne_Mo, pd_2⟩
theorem LB_Mo_exchangeReason : LB M_Mo_exchangeReason 2 := ⟨q_14, q_1792, ne_Mo, pd_14⟩
theorem LB_Mo_swapPages : LB M_Mo_swapPages 2 := ⟨q_14, q_1796, ne_Mo, pd_2⟩
theorem LB_Mo_flawOn : LB M_Mo_flawOn 2 := ⟨q_14, q_1803, ne_Mo, pd_14⟩
theorem LB_Mo_otherOf : LB M_Mo_otherOf 3 := ⟨q_14, q_1799, ne_Mo, pd_21⟩
theorem LB_Mo_setForm : LB M_Mo_setForm 3 := ⟨q_14, q_1811, ne_Mo, pd_30⟩
theorem LB_Mo_close : LB M_Mo_close 1 := ⟨q_14, q_1819, ne_Mo, pd_1⟩
theorem LB_Mo_freeStandby : LB M_Mo_freeStandby 1 := ⟨q_14, q_1823, ne_Mo, pd_9⟩
theorem LB_Mo_hour : LB M_Mo_hour 0 := ⟨q_14, q_1832, ne_Mo, pd_5⟩
theorem LB_Mo_nextForm : LB M_Mo_nextForm 0 := ⟨q_14, q_1844, ne_Mo, pd_5⟩
theorem LB_Mo_isAhead : LB M_Mo_isAhead 2 := ⟨q_14, q_1860, ne_Mo, pd_15⟩
theorem LB_Mo_firstOf : LB M_Mo_firstOf 2 := ⟨q_14, q_1864, ne_Mo, pd_14⟩
theorem LB_Mo_choicesOf : LB M_Mo_choicesOf 1 := ⟨q_14, q_1876, ne_Mo, pd_9⟩
theorem LB_Mo_evictionOf : LB M_Mo_evictionOf 2 := ⟨q_14, q_1892, ne_Mo, pd_14⟩
theorem LB_Mo_leastOf : LB M_Mo_leastOf 2 := ⟨q_14, q_1896, ne_Mo, pd_14⟩
theorem LB_Mo_joins : LB M_Mo_joins 1 := ⟨q_14, q_1908, ne_Mo, pd_4⟩
theorem LB_Mo_givesBack : LB M_Mo_givesBack 2 := ⟨q_14, q_1912, ne_Mo, pd_2⟩
theorem LB_Mo_ofGroupOn : LB M_Mo_ofGroupOn 2 := ⟨q_14, q_1929, ne_Mo, pd_14⟩
theorem LB_Mo_revenueBy : LB M_Mo_revenueBy 1 := ⟨q_14, q_1941, ne_Mo, pd_9⟩
theorem LB_Mo_isLateItem : LB M_Mo_isLateItem 1 := ⟨q_14, q_1957, ne_Mo, pd_4⟩
theorem LB_Mo_readyOf : LB M_Mo_readyOf 1 := ⟨q_14, q_1965, ne_Mo, pd_9⟩
theorem LB_Mo_isItem : LB M_Mo_isItem 1 := ⟨q_14, q_1961, ne_Mo, pd_4⟩
theorem LB_Mo_isOnOpenForm : LB M_Mo_isOnOpenForm 1 := ⟨q_14, q_1969, ne_Mo, pd_4⟩
theorem LB_Mo_coloredForms : LB M_Mo_coloredForms 0 := ⟨q_14, q_1981, ne_Mo, pd_5⟩
theorem LB_Mo_writeItem : LB M_Mo_writeItem 2 := ⟨q_14, q_2006, ne_Mo, pd_2⟩
theorem LB_Mo_write : LB M_Mo_write 1 := ⟨q_14, q_2010, ne_Mo, pd_1⟩
theorem LB_Mo_appendBytes : LB M_Mo_appendBytes 1 := ⟨q_14, q_2026, ne_Mo, pd_1⟩
theorem LB_Mo_advance : LB M_Mo_advance 0 := ⟨q_14, q_2046, ne_Mo, pd_0⟩
theorem LB_Mo_pack : LB M_Mo_pack 5 := ⟨q_14, q_2066, ne_Mo, pd_31⟩
theorem LB_Mo_isWord : LB M_Mo_isWord 1 := ⟨q_14, q_2070, ne_Mo, pd_32⟩
theorem LB_Mo_readPlan : LB M_Mo_readPlan 0 := ⟨q_14, q_2074, ne_Mo, pd_8⟩
theorem LB_Mo_readStatement : LB M_Mo_readStatement 0 := ⟨q_14, q_2092, ne_Mo, pd_8⟩
theorem LB_Mo_byteAt : LB M_Mo_byteAt 1 := ⟨q_14, q_2050, ne_Mo, pd_9⟩
theorem LB_Mo_isLetter : LB M_Mo_isLetter 1 := ⟨q_14, q_2053, ne_Mo, pd_4⟩
theorem LB_Mo_isDigit : LB M_Mo_isDigit 1 := ⟨q_14, q_2058, ne_Mo, pd_4⟩
theorem LB_Mo_readNumber : LB M_Mo_readNumber 2 := ⟨q_14, q_2078, ne_Mo, pd_15⟩
theorem LB_Mo_fail : LB M_Mo_fail 1 := ⟨q_14, q_2082, ne_Mo, pd_4⟩
theorem LB_Mo_readEnd : LB M_Mo_readEnd 0 := ⟨q_14, q_2088, ne_Mo, pd_8⟩
theorem LB_Mo_readColor : LB M_Mo_readColor 0 := ⟨q_14, q_2096, ne_Mo, pd_8⟩
theorem LB_Mo_readAd : LB M_Mo_readAd 0 := ⟨q_14, q_2100, ne_Mo, pd_8⟩
theorem LB_Mo_readStory : LB M_Mo_readStory 0 := ⟨q_14, q_2112, ne_Mo, pd_8⟩
theorem LB_Mo_readStandby : LB M_Mo_readStandby 0 := ⟨q_14, q_2118, ne_Mo, pd_8⟩
theorem LB_Mo_readClosing : LB M_Mo_readClosing 0 := ⟨q_14, q_2122, ne_Mo, pd_8⟩
theorem LB_Mo_readPlace : LB M_Mo_readPlace 1 := ⟨q_14, q_2126, ne_Mo, pd_33⟩
theorem LB_Mo_readSize : LB M_Mo_readSize 1 := ⟨q_14, q_2104, ne_Mo, pd_4⟩
theorem LB_Mo_readInto : LB M_Mo_readInto 3 := ⟨q_14, q_2108, ne_Mo, pd_11⟩
theorem LB_String_coder : LB M_String_coder 0 := ⟨q_15, q_492, ne_String, pd_34⟩
theorem LB_String_isLatin1 : LB M_String_isLatin1 0 := ⟨q_15, q_502, ne_String, pd_8⟩
theorem LB_StringLatin1_charAt : LB M_StringLatin1_charAt 2 := ⟨q_16, q_505, ne_StringLatin1, pd_35⟩
theorem LB_String_checkIndex : LB M_String_checkIndex 2 := ⟨q_15, q_508, ne_String, pd_2⟩
theorem LB_Preconditions_checkIndex : LB M_Preconditions_checkIndex 3 := ⟨q_17, q_513, ne_Preconditions, pd_36⟩
theorem LB_FP_init : LB M_FP_init 0 := ⟨q_1, q_32, ne_FP, pd_0⟩
theorem LB_Mo_init : LB M_Mo_init 0 := ⟨q_14, q_1436, ne_Mo, pd_0⟩
theorem LB_FP_appendInput : LB M_FP_appendInput 5 := ⟨q_1, q_444, ne_FP, pd_37⟩
theorem LB_Mo_appendInput : LB M_Mo_appendInput 5 := ⟨q_14, q_2022, ne_Mo, pd_37⟩
theorem LB_FP_truncateInput : LB M_FP_truncateInput 1 := ⟨q_1, q_456, ne_FP, pd_9⟩
theorem LB_Mo_truncateInput : LB M_Mo_truncateInput 1 := ⟨q_14, q_2030, ne_Mo, pd_9⟩
theorem LB_FP_load : LB M_FP_load 0 := ⟨q_1, q_460, ne_FP, pd_5⟩
theorem LB_Mo_load : LB M_Mo_load 0 := ⟨q_14, q_2042, ne_Mo, pd_5⟩
theorem LB_FP_errorCode : LB M_FP_errorCode 0 := ⟨q_1, q_684, ne_FP, pd_5⟩
theorem LB_Mo_errorCode : LB M_Mo_errorCode 0 := ⟨q_14, q_2034, ne_Mo, pd_5⟩
theorem LB_FP_errorPosition : LB M_FP_errorPosition 0 := ⟨q_1, q_688, ne_FP, pd_5⟩
theorem LB_Mo_errorPosition : LB M_Mo_errorPosition 0 := ⟨q_14, q_2038, ne_Mo, pd_5⟩
theorem LB_FP_count : LB M_FP_count 1 := ⟨q_1, q_692, ne_FP, pd_9⟩
theorem LB_Mo_count : LB M_Mo_count 1 := ⟨q_14, q_1620, ne_Mo, pd_9⟩
theorem LB_Mo_addAd : LB M_Mo_addAd 4 := ⟨q_14, q_1644, ne_Mo, pd_12⟩
theorem LB_Mo_thrown : LB M_Mo_thrown 0 := ⟨q_14, q_1513, ne_Mo, pd_5⟩
theorem LB_Mo_setAd : LB M_Mo_setAd 3 := ⟨q_14, q_1662, ne_Mo, pd_23⟩
theorem LB_Mo_setPrice : LB M_Mo_setPrice 2 := ⟨q_14, q_1667, ne_Mo, pd_14⟩
theorem LB_Mo_ad : LB M_Mo_ad 2 := ⟨q_14, q_1671, ne_Mo, pd_14⟩
theorem LB_Mo_story : LB M_Mo_story 2 := ⟨q_14, q_1683, ne_Mo, pd_14⟩
theorem LB_Mo_standby : LB M_Mo_standby 2 := ⟨q_14, q_1692, ne_Mo, pd_14⟩
theorem LB_Mo_page : LB M_Mo_page 2 := ⟨q_14, q_1700, ne_Mo, pd_14⟩
theorem LB_Mo_adOn : LB M_Mo_adOn 2 := ⟨q_14, q_1716, ne_Mo, pd_14⟩
theorem LB_Mo_form : LB M_Mo_form 2 := ⟨q_14, q_1720, ne_Mo, pd_14⟩
theorem LB_Mo_pageOf : LB M_Mo_pageOf 2 := ⟨q_14, q_1752, ne_Mo, pd_14⟩
theorem LB_Mo_reason : LB M_Mo_reason 2 := ⟨q_14, q_1529, ne_Mo, pd_14⟩
theorem LB_Mo_storyReason : LB M_Mo_storyReason 2 := ⟨q_14, q_1607, ne_Mo, pd_14⟩
theorem LB_Mo_put : LB M_Mo_put 2 := ⟨q_14, q_1756, ne_Mo, pd_14⟩
theorem LB_Mo_lay : LB M_Mo_lay 2 := ⟨q_14, q_1760, ne_Mo, pd_14⟩
theorem LB_Mo_take : LB M_Mo_take 1 := ⟨q_14, q_1768, ne_Mo, pd_4⟩
theorem LB_Mo_takeStory : LB M_Mo_takeStory 1 := ⟨q_14, q_1772, ne_Mo, pd_4⟩
theorem LB_Mo_use : LB M_Mo_use 2 := ⟨q_14, q_1776, ne_Mo, pd_14⟩
theorem LB_Mo_clear : LB M_Mo_clear 1 := ⟨q_14, q_1784, ne_Mo, pd_9⟩
theorem LB_Mo_exchange : LB M_Mo_exchange 2 := ⟨q_14, q_1788, ne_Mo, pd_14⟩
theorem LB_Mo_setColor : LB M_Mo_setColor 2 := ⟨q_14, q_1807, ne_Mo, pd_25⟩
theorem LB_Mo_setClosing : LB M_Mo_setClosing 2 := ⟨q_14, q_1815, ne_Mo, pd_14⟩
theorem LB_Mo_pass : LB M_Mo_pass 1 := ⟨q_14, q_1827, ne_Mo, pd_9⟩
theorem LB_Mo_print : LB M_Mo_print 1 := ⟨q_14, q_1836, ne_Mo, pd_9⟩
theorem LB_FP_nextClosing : LB M_FP_nextClosing 0 := ⟨q_1, q_699, ne_FP, pd_5⟩
theorem LB_Mo_nextClosing : LB M_Mo_nextClosing 0 := ⟨q_14, q_1840, ne_Mo, pd_5⟩
theorem LB_FP_placeAds : LB M_FP_placeAds 0 := ⟨q_1, q_707, ne_FP, pd_5⟩
theorem LB_Mo_placeAds : LB M_Mo_placeAds 0 := ⟨q_14, q_1856, ne_Mo, pd_5⟩
theorem LB_FP_layStories : LB M_FP_layStories 0 := ⟨q_1, q_738, ne_FP, pd_5⟩
theorem LB_Mo_layStories : LB M_Mo_layStories 0 := ⟨q_14, q_1868, ne_Mo, pd_5⟩
theorem LB_Mo_choices : LB M_Mo_choices 1 := ⟨q_14, q_1872, ne_Mo, pd_9⟩
theorem LB_Mo_firstPage : LB M_Mo_firstPage 2 := ⟨q_14, q_1880, ne_Mo, pd_14⟩
theorem LB_FP_tightest : LB M_FP_tightest 0 := ⟨q_1, q_751, ne_FP, pd_5⟩
theorem LB_Mo_tightest : LB M_Mo_tightest 0 := ⟨q_14, q_1884, ne_Mo, pd_5⟩
theorem LB_Mo_eviction : LB M_Mo_eviction 2 := ⟨q_14, q_1888, ne_Mo, pd_14⟩
theorem LB_Mo_cheapestPage : LB M_Mo_cheapestPage 1 := ⟨q_14, q_1900, ne_Mo, pd_9⟩
theorem LB_FP_matching : LB M_FP_matching 0 := ⟨q_1, q_764, ne_FP, pd_5⟩
theorem LB_Mo_matching : LB M_Mo_matching 0 := ⟨q_14, q_1904, ne_Mo, pd_5⟩
theorem LB_Mo_bestColor : LB M_Mo_bestColor 1 := ⟨q_14, q_1916, ne_Mo, pd_9⟩
theorem LB_FP_nearRivals : LB M_FP_nearRivals 0 := ⟨q_1, q_875, ne_FP, pd_5⟩
theorem LB_Mo_nearRivals : LB M_Mo_nearRivals 0 := ⟨q_14, q_1921, ne_Mo, pd_5⟩
theorem LB_Mo_groupOn : LB M_Mo_groupOn 2 := ⟨q_14, q_1925, ne_Mo, pd_14⟩
theorem LB_Mo_spreadsOf : LB M_Mo_spreadsOf 1 := ⟨q_14, q_1933, ne_Mo, pd_9⟩
theorem LB_Mo_revenue : LB M_Mo_revenue 0 := ⟨q_14, q_1937, ne_Mo, pd_5⟩
theorem LB_Mo_revenueOf : LB M_Mo_revenueOf 1 := ⟨q_14, q_1945, ne_Mo, pd_9⟩
theorem LB_Mo_revenueOfGroup : LB M_Mo_revenueOfGroup 1 := ⟨q_14, q_1949, ne_Mo, pd_9⟩
theorem LB_FP_lost : LB M_FP_lost 0 := ⟨q_1, q_887, ne_FP, pd_5⟩
theorem LB_Mo_lost : LB M_Mo_lost 0 := ⟨q_14, q_1848, ne_Mo, pd_5⟩
theorem LB_FP_endangered : LB M_FP_endangered 0 := ⟨q_1, q_891, ne_FP, pd_5⟩
theorem LB_Mo_endangered : LB M_Mo_endangered 0 := ⟨q_14, q_1852, ne_Mo, pd_5⟩
theorem LB_FP_lateItem : LB M_FP_lateItem 1 := ⟨q_1, q_820, ne_FP, pd_9⟩
theorem LB_Mo_lateItem : LB M_Mo_lateItem 1 := ⟨q_14, q_1953, ne_Mo, pd_9⟩
theorem LB_FP_lastReady : LB M_FP_lastReady 0 := ⟨q_1, q_863, ne_FP, pd_5⟩
theorem LB_Mo_lastReady : LB M_Mo_lastReady 0 := ⟨q_14, q_1973, ne_Mo, pd_5⟩
theorem LB_FP_betterExchange : LB M_FP_betterExchange 0 := ⟨q_1, q_785, ne_FP, pd_5⟩
theorem LB_Mo_betterExchange : LB M_Mo_betterExchange 0 := ⟨q_14, q_1977, ne_Mo, pd_5⟩
theorem LB_Mo_emptyRun : LB M_Mo_emptyRun 1 := ⟨q_14, q_1985, ne_Mo, pd_9⟩
theorem LB_FP_emptiest : LB M_FP_emptiest 1 := ⟨q_1, q_871, ne_FP, pd_9⟩
theorem LB_Mo_emptiest : LB M_Mo_emptiest 1 := ⟨q_14, q_1990, ne_Mo, pd_9⟩
theorem LB_FP_fill : LB M_FP_fill 0 := ⟨q_1, q_896, ne_FP, pd_26⟩
theorem LB_Mo_fill : LB M_Mo_fill 0 := ⟨q_14, q_1994, ne_Mo, pd_26⟩
theorem LB_Mo_quarterPrice : LB M_Mo_quarterPrice 0 := ⟨q_14, q_1998, ne_Mo, pd_26⟩
theorem LB_Mo_describe : LB M_Mo_describe 1 := ⟨q_14, q_2002, ne_Mo, pd_9⟩
theorem LB_FP_describedByte : LB M_FP_describedByte 1 := ⟨q_1, q_900, ne_FP, pd_9⟩
theorem LB_Mo_describedByte : LB M_Mo_describedByte 1 := ⟨q_14, q_2014, ne_Mo, pd_9⟩
theorem LB_FP_digest : LB M_FP_digest 0 := ⟨q_1, q_905, ne_FP, pd_5⟩
theorem LB_Mo_digest : LB M_Mo_digest 0 := ⟨q_14, q_2018, ne_Mo, pd_5⟩
theorem LB_FP_undo : LB M_FP_undo 0 := ⟨q_1, q_909, ne_FP, pd_8⟩
theorem LB_Mo_undo : LB M_Mo_undo 0 := ⟨q_14, q_1517, ne_Mo, pd_8⟩
theorem LB_FP_undoCount : LB M_FP_undoCount 0 := ⟨q_1, q_918, ne_FP, pd_5⟩
theorem LB_Mo_undoCount : LB M_Mo_undoCount 0 := ⟨q_14, q_1525, ne_Mo, pd_5⟩
theorem K_FP_9 : LIN "FlatPlan" 9 M_Reader_init 0 := ⟨LB_Reader_init, ⟨_, List.mem_of_getElem? (i := 0) rfl⟩, q_39, rfl, rfl⟩
theorem K_FP_25 : LIN "FlatPlan" 25 M_Searches_init 0 := ⟨LB_Searches_init, ⟨_, List.mem_of_getElem? (i := 6) rfl⟩, q_363, rfl, rfl⟩
theorem K_FP_37 : LI "FlatPlan" 37 M_History_init 0 := ⟨LB_History_init, q_402, q_403, rfl, rfl⟩
theorem K_FP_44 : LI "FlatPlan" 44 M_Bytes_init 1 := ⟨LB_Bytes_init, q_421, q_45, rfl, rfl⟩
theorem K_Reader_11 : LI "FlatPlan$Reader" 11 M_Bytes_init 1 := ⟨LB_Bytes_init, q_44, q_45, rfl, rfl⟩
theorem K_Reader_22 : LI "FlatPlan$Reader" 22 M_Plan_init 0 := ⟨LB_Plan_init, q_60, q_61, rfl, rfl⟩
theorem K_Plan_11 : LIN "FlatPlan$Plan" 11 M_State_init 0 := ⟨LB_State_init, ⟨_, List.mem_of_getElem? (i := 1) rfl⟩, q_67, rfl, rfl⟩
theorem K_Plan_34 : LV "FlatPlan$Plan" 34 (RC 4) M_Plan_begin 2 := ⟨LB_Plan_begin, q_268, q_269, q_270⟩
theorem K_State_9 : LIN "FlatPlan$State" 9 M_Ads_init 0 := ⟨LB_Ads_init, ⟨_, List.mem_of_getElem? (i := 2) rfl⟩, q_73, rfl, rfl⟩
theorem K_State_18 : LIN "FlatPlan$State" 18 M_Stories_init 0 := ⟨LB_Stories_init, ⟨_, List.mem_of_getElem? (i := 3) rfl⟩, q_130, rfl, rfl⟩
theorem K_State_25 : LIN "FlatPlan$State" 25 M_Standbys_init 0 := ⟨LB_Standbys_init, ⟨_, List.mem_of_getElem? (i := 4) rfl⟩, q_174, rfl, rfl⟩
theorem K_State_32 : LIN "FlatPlan$State" 32 M_Forms_init 0 := ⟨LB_Forms_init, ⟨_, List.mem_of_getElem? (i := 5) rfl⟩, q_197, rfl, rfl⟩
theorem K_Plan_83 : LQ "FlatPlan$Plan" 83 M_Arrays_fill 2 := ⟨LB_Arrays_fill, q_272, q_273⟩
theorem K_Plan_95 : LV "FlatPlan$Plan" 95 (RC 4) M_Plan_layOut 0 := ⟨LB_Plan_layOut, q_275, q_277, qs_0⟩
theorem K_Plan_98 : LV "FlatPlan$Plan" 98 (RC 4) M_Plan_recount 0 := ⟨LB_Plan_recount, q_282, q_283, q_284⟩
theorem K_Plan_119 : LV "FlatPlan$Plan" 119 (RC 4) M_Plan_hasPage 1 := ⟨LB_Plan_hasPage, q_286, q_287, q_288⟩
theorem K_Searches_11 : LI "FlatPlan$Searches" 11 M_Plan_init 0 := ⟨LB_Plan_init, q_367, q_61, rfl, rfl⟩
theorem K_History_17 : LIN "FlatPlan$History" 17 M_State_init 0 := ⟨LB_State_init, ⟨_, List.mem_of_getElem? (i := 7) rfl⟩, q_67, rfl, rfl⟩
theorem K_FP_54 : LV "FlatPlan" 54 (RC 1) M_Bytes_addWord 1 := ⟨LB_Bytes_addWord, q_445, q_446, q_447⟩
theorem K_Bytes_19 : LV "FlatPlan$Bytes" 19 (RC 1) M_Bytes_addByte 1 := ⟨LB_Bytes_addByte, q_449, q_450, q_451⟩
theorem K_FP_57 : LV "FlatPlan" 57 (RC 5) M_Reader_readText 0 := ⟨LB_Reader_readText, q_461, q_462, q_463⟩
theorem K_FP_70 : LV "FlatPlan" 70 (RC 4) M_Plan_become 1 := ⟨LB_Plan_become, q_646, q_647, q_648⟩
theorem K_FP_74 : LV "FlatPlan" 74 (RC 3) M_History_forget 0 := ⟨LB_History_forget, q_676, q_677, q_678⟩
theorem K_Reader_41 : LV "FlatPlan$Reader" 41 (RC 4) M_Plan_begin 2 := ⟨LB_Plan_begin, q_465, q_269, q_270⟩
theorem K_Reader_45 : LV "FlatPlan$Reader" 45 (RC 5) M_Reader_nextToken 0 := ⟨LB_Reader_nextToken, q_466, q_468, qs_1⟩
theorem K_Reader_50 : LV "FlatPlan$Reader" 50 (RC 5) M_Reader_isWord 1 := ⟨LB_Reader_isWord, q_481, q_483, qs_2⟩
theorem K_Reader_54 : LV "FlatPlan$Reader" 54 (RC 5) M_Reader_readPlan 0 := ⟨LB_Reader_readPlan, q_533, q_535, qs_3⟩
theorem K_Reader_61 : LV "FlatPlan$Reader" 61 (RC 5) M_Reader_readStatement 0 := ⟨LB_Reader_readStatement, q_553, q_555, qs_8⟩
theorem K_Reader_198 : LV "FlatPlan$Reader" 198 (RC 1) M_Bytes_byteAt 1 := ⟨LB_Bytes_byteAt, q_470, q_471, q_472⟩
theorem K_Reader_202 : LQ "FlatPlan$Reader" 202 M_Reader_isLetter 1 := ⟨LB_Reader_isLetter, q_474, q_475⟩
theorem K_Reader_205 : LQ "FlatPlan$Reader" 205 M_Reader_isDigit 1 := ⟨LB_Reader_isDigit, q_477, q_478⟩
theorem K_Reader_208 : LV "FlatPlan$Reader" 208 "java/lang/String" M_String_length 0 := ⟨LB_String_length, q_485, q_486, q_487⟩
theorem K_Reader_212 : LV "FlatPlan$Reader" 212 "java/lang/String" M_String_charAt 1 := ⟨LB_String_charAt, q_495, q_496, q_497⟩
theorem K_Reader_64 : LV "FlatPlan$Reader" 64 (RC 5) M_Reader_readNumber 3 := ⟨LB_Reader_readNumber, q_537, q_539, qs_4⟩
theorem K_Reader_68 : LV "FlatPlan$Reader" 68 (RC 5) M_Reader_fail 1 := ⟨LB_Reader_fail, q_541, q_543, qs_5⟩
theorem K_Reader_72 : LV "FlatPlan$Reader" 72 (RC 5) M_Reader_readSemicolon 0 := ⟨LB_Reader_readSemicolon, q_549, q_551, qs_7⟩
theorem K_Reader_188 : LV "FlatPlan$Reader" 188 (RC 5) M_Reader_numberRead 0 := ⟨LB_Reader_numberRead, q_545, q_547, qs_6⟩
theorem K_Reader_77 : LV "FlatPlan$Reader" 77 (RC 5) M_Reader_readColor 0 := ⟨LB_Reader_readColor, q_558, q_560, qs_9⟩
theorem K_Reader_82 : LV "FlatPlan$Reader" 82 (RC 5) M_Reader_readAd 0 := ⟨LB_Reader_readAd, q_563, q_565, qs_10⟩
theorem K_Reader_87 : LV "FlatPlan$Reader" 87 (RC 5) M_Reader_readStory 0 := ⟨LB_Reader_readStory, q_579, q_581, qs_12⟩
theorem K_Reader_92 : LV "FlatPlan$Reader" 92 (RC 5) M_Reader_readStandby 0 := ⟨LB_Reader_readStandby, q_588, q_590, qs_13⟩
theorem K_Reader_97 : LV "FlatPlan$Reader" 97 (RC 5) M_Reader_readClose 0 := ⟨LB_Reader_readClose, q_597, q_599, qs_14⟩
theorem K_Reader_102 : LV "FlatPlan$Reader" 102 (RC 5) M_Reader_readPut 0 := ⟨LB_Reader_readPut, q_602, q_604, qs_15⟩
theorem K_Reader_107 : LV "FlatPlan$Reader" 107 (RC 5) M_Reader_readLay 0 := ⟨LB_Reader_readLay, q_631, q_633, qs_18⟩
theorem K_Reader_135 : LV "FlatPlan$Reader" 135 (RC 5) M_Reader_firstIsSize 0 := ⟨LB_Reader_firstIsSize, q_567, q_569, qs_11⟩
theorem K_Reader_138 : LV "FlatPlan$Reader" 138 (RC 0) M_Ads_add 4 := ⟨LB_Ads_add, q_574, q_575, q_576⟩
theorem K_Reader_185 : LSN "FlatPlan$Reader" 185 M_FP_isSize 1 := ⟨LB_FP_isSize, ⟨_, List.mem_of_getElem? (i := 8) rfl⟩, q_572⟩
theorem K_Reader_153 : LV "FlatPlan$Reader" 153 (RC 9) M_Stories_add 4 := ⟨LB_Stories_add, q_583, q_584, q_585⟩
theorem K_Reader_163 : LV "FlatPlan$Reader" 163 (RC 7) M_Standbys_add 1 := ⟨LB_Standbys_add, q_592, q_593, q_594⟩
theorem K_Reader_174 : LV "FlatPlan$Reader" 174 (RC 4) M_Plan_adReason 2 := ⟨LB_Plan_adReason, q_606, q_607, q_608⟩
theorem K_Reader_178 : LV "FlatPlan$Reader" 178 (RC 4) M_Plan_recount 0 := ⟨LB_Plan_recount, q_629, q_283, q_284⟩
theorem K_Plan_135 : LV "FlatPlan$Plan" 135 (RC 4) M_Plan_isPrinted 1 := ⟨LB_Plan_isPrinted, q_610, q_611, q_612⟩
theorem K_Plan_149 : LV "FlatPlan$Plan" 149 (RC 4) M_Plan_roomFor 2 := ⟨LB_Plan_roomFor, q_614, q_615, q_616⟩
theorem K_Plan_139 : LV "FlatPlan$Plan" 139 (RC 4) M_Plan_lacksColor 2 := ⟨LB_Plan_lacksColor, q_618, q_620, qs_16⟩
theorem K_Plan_146 : LQ "FlatPlan$Plan" 146 M_Plan_isWrongSide 2 := ⟨LB_Plan_isWrongSide, q_622, q_623⟩
theorem K_Plan_152 : LV "FlatPlan$Plan" 152 (RC 4) M_Plan_meetsRival 2 := ⟨LB_Plan_meetsRival, q_625, q_627, qs_17⟩
theorem K_Reader_182 : LV "FlatPlan$Reader" 182 (RC 4) M_Plan_layReason 2 := ⟨LB_Plan_layReason, q_635, q_636, q_637⟩
theorem K_Plan_156 : LV "FlatPlan$Plan" 156 (RC 4) M_Plan_pageReason 2 := ⟨LB_Plan_pageReason, q_639, q_641, qs_19⟩
theorem K_Plan_159 : LQ "FlatPlan$Plan" 159 M_Plan_lowerReason 2 := ⟨LB_Plan_lowerReason, q_643, q_644⟩
theorem K_Plan_101 : LV "FlatPlan$Plan" 101 (RC 8) M_State_copyFrom 1 := ⟨LB_State_copyFrom, q_650, q_651, q_652⟩
theorem K_State_37 : LV "FlatPlan$State" 37 (RC 0) M_Ads_copyFrom 1 := ⟨LB_Ads_copyFrom, q_654, q_655, q_656⟩
theorem K_State_41 : LV "FlatPlan$State" 41 (RC 9) M_Stories_copyFrom 1 := ⟨LB_Stories_copyFrom, q_661, q_662, q_663⟩
theorem K_State_44 : LV "FlatPlan$State" 44 (RC 7) M_Standbys_copyFrom 1 := ⟨LB_Standbys_copyFrom, q_666, q_667, q_668⟩
theorem K_State_47 : LV "FlatPlan$State" 47 (RC 2) M_Forms_copyFrom 1 := ⟨LB_Forms_copyFrom, q_671, q_672, q_673⟩
theorem K_FP_124 : LQ "FlatPlan" 124 M_FP_placed 2 := ⟨LB_FP_placed, q_693, q_694⟩
theorem K_FP_277 : LV "FlatPlan" 277 (RC 4) M_Plan_soonestForm 0 := ⟨LB_Plan_soonestForm, q_700, q_701, q_702⟩
theorem K_FP_155 : LV "FlatPlan" 155 (RC 3) M_History_keep 1 := ⟨LB_History_keep, q_708, q_709, q_710⟩
theorem K_FP_280 : LV "FlatPlan" 280 (RC 6) M_Searches_placeFreeAds 0 := ⟨LB_Searches_placeFreeAds, q_714, q_715, q_716⟩
theorem K_History_22 : LV "FlatPlan$History" 22 (RC 8) M_State_copyFrom 1 := ⟨LB_State_copyFrom, q_712, q_651, q_652⟩
theorem K_Searches_63 : LV "FlatPlan$Searches" 63 (RC 6) M_Searches_insertAd 2 := ⟨LB_Searches_insertAd, q_718, q_720, qs_20⟩
theorem K_Searches_67 : LV "FlatPlan$Searches" 67 (RC 4) M_Plan_firstFor 2 := ⟨LB_Plan_firstFor, q_726, q_727, q_728⟩
theorem K_Searches_71 : LV "FlatPlan$Searches" 71 (RC 4) M_Plan_recount 0 := ⟨LB_Plan_recount, q_734, q_283, q_284⟩
theorem K_Searches_74 : LV "FlatPlan$Searches" 74 (RC 6) M_Searches_comesBefore 2 := ⟨LB_Searches_comesBefore, q_722, q_724, qs_21⟩
theorem K_Plan_210 : LV "FlatPlan$Plan" 210 (RC 4) M_Plan_adReason 2 := ⟨LB_Plan_adReason, q_733, q_607, q_608⟩
theorem K_FP_283 : LV "FlatPlan" 283 (RC 6) M_Searches_layFreeStories 0 := ⟨LB_Searches_layFreeStories, q_739, q_740, q_741⟩
theorem K_Searches_95 : LV "FlatPlan$Searches" 95 (RC 6) M_Searches_layFirst 1 := ⟨LB_Searches_layFirst, q_743, q_745, qs_22⟩
theorem K_Searches_102 : LV "FlatPlan$Searches" 102 (RC 4) M_Plan_layReason 2 := ⟨LB_Plan_layReason, q_747, q_636, q_637⟩
theorem K_FP_292 : LV "FlatPlan" 292 (RC 6) M_Searches_tightestAd 0 := ⟨LB_Searches_tightestAd, q_752, q_753, q_754⟩
theorem K_Searches_108 : LV "FlatPlan$Searches" 108 (RC 6) M_Searches_pagesFor 1 := ⟨LB_Searches_pagesFor, q_756, q_757, q_758⟩
theorem K_Searches_105 : LV "FlatPlan$Searches" 105 (RC 4) M_Plan_adReason 2 := ⟨LB_Plan_adReason, q_760, q_607, q_608⟩
theorem K_FP_301 : LV "FlatPlan" 301 (RC 6) M_Searches_matchedAds 0 := ⟨LB_Searches_matchedAds, q_765, q_766, q_767⟩
theorem K_Searches_140 : LQ "FlatPlan$Searches" 140 M_Arrays_fill 2 := ⟨LB_Arrays_fill, q_769, q_273⟩
theorem K_Searches_146 : LV "FlatPlan$Searches" 146 (RC 6) M_Searches_matchOneMore 1 := ⟨LB_Searches_matchOneMore, q_770, q_772, qs_23⟩
theorem K_Searches_149 : LV "FlatPlan$Searches" 149 (RC 6) M_Searches_mayMatch 2 := ⟨LB_Searches_mayMatch, q_774, q_776, qs_24⟩
theorem K_Searches_152 : LV "FlatPlan$Searches" 152 (RC 6) M_Searches_changePartners 1 := ⟨LB_Searches_changePartners, q_778, q_780, qs_25⟩
theorem K_FP_309 : LV "FlatPlan" 309 (RC 6) M_Searches_bestExchange 0 := ⟨LB_Searches_bestExchange, q_786, q_787, q_788⟩
theorem K_Searches_181 : LV "FlatPlan$Searches" 181 (RC 6) M_Searches_countColorPages 0 := ⟨LB_Searches_countColorPages, q_790, q_792, qs_26⟩
theorem K_Searches_184 : LV "FlatPlan$Searches" 184 (RC 6) M_Searches_fewerColorForms 2 := ⟨LB_Searches_fewerColorForms, q_795, q_797, qs_27⟩
theorem K_Searches_187 : LV "FlatPlan$Searches" 187 (RC 4) M_Plan_exchangeReason 2 := ⟨LB_Plan_exchangeReason, q_802, q_803, q_804⟩
theorem K_Searches_190 : LV "FlatPlan$Searches" 190 (RC 4) M_Plan_hasPage 1 := ⟨LB_Plan_hasPage, q_794, q_287, q_288⟩
theorem K_Searches_198 : LQ "FlatPlan$Searches" 198 M_Searches_oneIfAny 1 := ⟨LB_Searches_oneIfAny, q_799, q_800⟩
theorem K_Plan_163 : LV "FlatPlan$Plan" 163 (RC 4) M_Plan_exchangedReason 3 := ⟨LB_Plan_exchangedReason, q_806, q_808, qs_28⟩
theorem K_Plan_167 : LQ "FlatPlan$Plan" 167 M_Plan_exchanged 3 := ⟨LB_Plan_exchanged, q_810, q_811⟩
theorem K_Plan_170 : LV "FlatPlan$Plan" 170 (RC 0) M_Ads_areRivals 2 := ⟨LB_Ads_areRivals, q_813, q_814, q_815⟩
theorem K_FP_312 : LV "FlatPlan" 312 (RC 6) M_Searches_lateItemAt 1 := ⟨LB_Searches_lateItemAt, q_821, q_822, q_823⟩
theorem K_Searches_201 : LV "FlatPlan$Searches" 201 (RC 6) M_Searches_nextLateRank 1 := ⟨LB_Searches_nextLateRank, q_825, q_827, qs_29⟩
theorem K_Searches_204 : LV "FlatPlan$Searches" 204 (RC 6) M_Searches_adIsOpen 1 := ⟨LB_Searches_adIsOpen, q_829, q_831, qs_30⟩
theorem K_Searches_210 : LV "FlatPlan$Searches" 210 (RC 4) M_Plan_isLate 1 := ⟨LB_Plan_isLate, q_834, q_835, q_836⟩
theorem K_Searches_213 : LQ "FlatPlan$Searches" 213 M_Searches_rankOf 2 := ⟨LB_Searches_rankOf, q_838, q_839⟩
theorem K_Searches_216 : LQ "FlatPlan$Searches" 216 M_Searches_nearerRank 3 := ⟨LB_Searches_nearerRank, q_841, q_842⟩
theorem K_Searches_220 : LV "FlatPlan$Searches" 220 (RC 4) M_Plan_storyIsOpen 1 := ⟨LB_Plan_storyIsOpen, q_844, q_845, q_846⟩
theorem K_Searches_127 : LV "FlatPlan$Searches" 127 (RC 4) M_Plan_isPrinted 1 := ⟨LB_Plan_isPrinted, q_833, q_611, q_612⟩
theorem K_Plan_177 : LV "FlatPlan$Plan" 177 (RC 4) M_Plan_storyIsOnFormThat 2 := ⟨LB_Plan_storyIsOnFormThat, q_848, q_850, qs_31⟩
theorem K_Plan_180 : LV "FlatPlan$Plan" 180 (RC 4) M_Plan_storyIsOn 2 := ⟨LB_Plan_storyIsOn, q_852, q_853, q_854⟩
theorem K_Plan_173 : LV "FlatPlan$Plan" 173 (RC 4) M_Plan_formAt 1 := ⟨LB_Plan_formAt, q_856, q_857, q_858⟩
theorem K_FP_315 : LV "FlatPlan" 315 (RC 6) M_Searches_readyLast 0 := ⟨LB_Searches_readyLast, q_864, q_865, q_866⟩
theorem K_FP_320 : LV "FlatPlan" 320 (RC 0) M_Ads_areRivals 2 := ⟨LB_Ads_areRivals, q_876, q_814, q_815⟩
theorem K_FP_337 : LV "FlatPlan" 337 (RC 4) M_Plan_formAt 1 := ⟨LB_Plan_formAt, q_892, q_857, q_858⟩
theorem K_FP_355 : LV "FlatPlan" 355 (RC 1) M_Bytes_byteAt 1 := ⟨LB_Bytes_byteAt, q_901, q_471, q_472⟩
theorem K_FP_358 : LV "FlatPlan" 358 (RC 3) M_History_bringBack 1 := ⟨LB_History_bringBack, q_910, q_911, q_912⟩
theorem K_History_35 : LV "FlatPlan$History" 35 (RC 4) M_Plan_become 1 := ⟨LB_Plan_become, q_914, q_647, q_648⟩
theorem K_Law_7 : LV "FlatPlanLaw" 7 (RC 10) M_FP_addAd 4 := ⟨LB_FP_addAd, q_923, q_924, q_925⟩
theorem K_FP_141 : LQ "FlatPlan" 141 M_FP_isSize 1 := ⟨LB_FP_isSize, q_927, q_572⟩
theorem K_FP_145 : LQ "FlatPlan" 145 M_FP_isPrice 1 := ⟨LB_FP_isPrice, q_928, q_929⟩
theorem K_FP_158 : LV "FlatPlan" 158 (RC 0) M_Ads_add 4 := ⟨LB_Ads_add, q_999, q_575, q_576⟩
theorem K_Law_15 : LV "FlatPlanLaw" 15 (RC 10) M_FP_setAd 3 := ⟨LB_FP_setAd, q_1027, q_1028, q_1029⟩
theorem K_FP_162 : LV "FlatPlan" 162 (RC 10) M_FP_needAd 1 := ⟨LB_FP_needAd, q_1031, q_1033, qs_33⟩
theorem K_Law_21 : LV "FlatPlanLaw" 21 (RC 10) M_FP_setPrice 2 := ⟨LB_FP_setPrice, q_1052, q_1053, q_1054⟩
theorem K_Law_25 : LV "FlatPlanLaw" 25 (RC 10) M_FP_ad 2 := ⟨LB_FP_ad, q_1060, q_1061, q_1062⟩
theorem K_FP_185 : LQ "FlatPlan" 185 M_FP_orNone 1 := ⟨LB_FP_orNone, q_1064, q_1065⟩
theorem K_FP_189 : LV "FlatPlan" 189 (RC 4) M_Plan_isLate 1 := ⟨LB_Plan_isLate, q_1067, q_835, q_836⟩
theorem K_Law_28 : LV "FlatPlanLaw" 28 (RC 10) M_FP_story 2 := ⟨LB_FP_story, q_1071, q_1072, q_1073⟩
theorem K_FP_192 : LV "FlatPlan" 192 (RC 10) M_FP_needStory 1 := ⟨LB_FP_needStory, q_1075, q_1077, qs_34⟩
theorem K_Law_31 : LV "FlatPlanLaw" 31 (RC 10) M_FP_standby 2 := ⟨LB_FP_standby, q_1083, q_1084, q_1085⟩
theorem K_FP_200 : LV "FlatPlan" 200 (RC 10) M_FP_needStandby 1 := ⟨LB_FP_needStandby, q_1087, q_1089, qs_35⟩
theorem K_Law_34 : LV "FlatPlanLaw" 34 (RC 10) M_FP_page 2 := ⟨LB_FP_page, q_1095, q_1096, q_1097⟩
theorem K_FP_204 : LV "FlatPlan" 204 (RC 10) M_FP_needPage 1 := ⟨LB_FP_needPage, q_1099, q_1101, qs_36⟩
theorem K_FP_216 : LQ "FlatPlan" 216 M_FP_standing 3 := ⟨LB_FP_standing, q_1105, q_1106⟩
theorem K_FP_372 : LV "FlatPlan" 372 (RC 4) M_Plan_hasPage 1 := ⟨LB_Plan_hasPage, q_1103, q_287, q_288⟩
theorem K_Law_37 : LV "FlatPlanLaw" 37 (RC 10) M_FP_adOn 2 := ⟨LB_FP_adOn, q_1111, q_1112, q_1113⟩
theorem K_Law_40 : LV "FlatPlanLaw" 40 (RC 10) M_FP_form 2 := ⟨LB_FP_form, q_1118, q_1119, q_1120⟩
theorem K_FP_223 : LV "FlatPlan" 223 (RC 10) M_FP_needForm 1 := ⟨LB_FP_needForm, q_1122, q_1124, qs_37⟩
theorem K_FP_232 : LV "FlatPlan" 232 (RC 4) M_Plan_leftOnForm 1 := ⟨LB_Plan_leftOnForm, q_1127, q_1128, q_1129⟩
theorem K_FP_235 : LV "FlatPlan" 235 (RC 4) M_Plan_adsOnForm 1 := ⟨LB_Plan_adsOnForm, q_1131, q_1132, q_1133⟩
theorem K_FP_238 : LV "FlatPlan" 238 (RC 4) M_Plan_lateOnForm 1 := ⟨LB_Plan_lateOnForm, q_1135, q_1136, q_1137⟩
theorem K_FP_241 : LV "FlatPlan" 241 (RC 4) M_Plan_hasColorItem 1 := ⟨LB_Plan_hasColorItem, q_1140, q_1141, q_1142⟩
theorem K_Plan_186 : LV "FlatPlan$Plan" 186 (RC 4) M_Plan_isLate 1 := ⟨LB_Plan_isLate, q_1139, q_835, q_836⟩
theorem K_Law_43 : LV "FlatPlanLaw" 43 (RC 10) M_FP_pageOf 2 := ⟨LB_FP_pageOf, q_1147, q_1148, q_1149⟩
theorem K_Law_46 : LV "FlatPlanLaw" 46 (RC 10) M_FP_reason 2 := ⟨LB_FP_reason, q_1154, q_1155, q_1156⟩
theorem K_FP_244 : LV "FlatPlan" 244 (RC 4) M_Plan_adReason 2 := ⟨LB_Plan_adReason, q_1158, q_607, q_608⟩
theorem K_Law_49 : LV "FlatPlanLaw" 49 (RC 10) M_FP_storyReason 2 := ⟨LB_FP_storyReason, q_1162, q_1163, q_1164⟩
theorem K_FP_248 : LV "FlatPlan" 248 (RC 4) M_Plan_layReason 2 := ⟨LB_Plan_layReason, q_1166, q_636, q_637⟩
theorem K_Law_52 : LV "FlatPlanLaw" 52 (RC 10) M_FP_put 2 := ⟨LB_FP_put, q_1170, q_1171, q_1172⟩
theorem K_FP_251 : LV "FlatPlan" 251 (RC 4) M_Plan_isPrinted 1 := ⟨LB_Plan_isPrinted, q_1174, q_611, q_612⟩
theorem K_FP_254 : LV "FlatPlan" 254 (RC 4) M_Plan_recount 0 := ⟨LB_Plan_recount, q_1175, q_283, q_284⟩
theorem K_Law_55 : LV "FlatPlanLaw" 55 (RC 10) M_FP_lay 2 := ⟨LB_FP_lay, q_1179, q_1180, q_1181⟩
theorem K_FP_257 : LV "FlatPlan" 257 (RC 4) M_Plan_storyIsPrinted 1 := ⟨LB_Plan_storyIsPrinted, q_1183, q_1184, q_1185⟩
theorem K_Law_58 : LV "FlatPlanLaw" 58 (RC 10) M_FP_take 1 := ⟨LB_FP_take, q_1190, q_1191, q_1192⟩
theorem K_Law_62 : LV "FlatPlanLaw" 62 (RC 10) M_FP_takeStory 1 := ⟨LB_FP_takeStory, q_1197, q_1198, q_1199⟩
theorem K_Law_65 : LV "FlatPlanLaw" 65 (RC 10) M_FP_use 2 := ⟨LB_FP_use, q_1204, q_1205, q_1206⟩
theorem K_FP_260 : LV "FlatPlan" 260 (RC 4) M_Plan_useReason 2 := ⟨LB_Plan_useReason, q_1208, q_1209, q_1210⟩
theorem K_Law_68 : LV "FlatPlanLaw" 68 (RC 10) M_FP_clear 1 := ⟨LB_FP_clear, q_1215, q_1216, q_1217⟩
theorem K_Law_72 : LV "FlatPlanLaw" 72 (RC 10) M_FP_exchange 2 := ⟨LB_FP_exchange, q_1222, q_1223, q_1224⟩
theorem K_FP_263 : LV "FlatPlan" 263 (RC 4) M_Plan_exchangeReason 2 := ⟨LB_Plan_exchangeReason, q_1226, q_803, q_804⟩
theorem K_FP_266 : LQ "FlatPlan" 266 M_Plan_exchanged 3 := ⟨LB_Plan_exchanged, q_1227, q_811⟩
theorem K_Law_75 : LV "FlatPlanLaw" 75 (RC 10) M_FP_setColor 2 := ⟨LB_FP_setColor, q_1231, q_1232, q_1233⟩
theorem K_Law_79 : LV "FlatPlanLaw" 79 (RC 10) M_FP_setClosing 2 := ⟨LB_FP_setClosing, q_1238, q_1239, q_1240⟩
theorem K_FP_272 : LV "FlatPlan" 272 (RC 4) M_Plan_closeDueForms 0 := ⟨LB_Plan_closeDueForms, q_1243, q_1244, q_1245⟩
theorem K_Plan_190 : LV "FlatPlan$Plan" 190 (RC 4) M_Plan_soonestForm 0 := ⟨LB_Plan_soonestForm, q_1247, q_701, q_702⟩
theorem K_Plan_194 : LV "FlatPlan$Plan" 194 (RC 4) M_Plan_closeForm 1 := ⟨LB_Plan_closeForm, q_1248, q_1250, qs_38⟩
theorem K_Plan_198 : LV "FlatPlan$Plan" 198 (RC 4) M_Plan_replaceLateAds 1 := ⟨LB_Plan_replaceLateAds, q_1252, q_1254, qs_39⟩
theorem K_Plan_204 : LV "FlatPlan$Plan" 204 (RC 7) M_Standbys_unused 1 := ⟨LB_Standbys_unused, q_1256, q_1257, q_1258⟩
theorem K_Law_82 : LV "FlatPlanLaw" 82 (RC 10) M_FP_pass 1 := ⟨LB_FP_pass, q_1263, q_1264, q_1265⟩
theorem K_Law_85 : LV "FlatPlanLaw" 85 (RC 10) M_FP_print 1 := ⟨LB_FP_print, q_1271, q_1272, q_1273⟩
theorem K_Law_88 : LV "FlatPlanLaw" 88 (RC 10) M_FP_choices 1 := ⟨LB_FP_choices, q_1278, q_1279, q_1280⟩
theorem K_FP_286 : LV "FlatPlan" 286 (RC 6) M_Searches_pagesFor 1 := ⟨LB_Searches_pagesFor, q_1282, q_757, q_758⟩
theorem K_Law_91 : LV "FlatPlanLaw" 91 (RC 10) M_FP_firstPage 2 := ⟨LB_FP_firstPage, q_1286, q_1287, q_1288⟩
theorem K_FP_289 : LV "FlatPlan" 289 (RC 4) M_Plan_firstFor 2 := ⟨LB_Plan_firstFor, q_1290, q_727, q_728⟩
theorem K_Law_94 : LV "FlatPlanLaw" 94 (RC 10) M_FP_eviction 2 := ⟨LB_FP_eviction, q_1294, q_1295, q_1296⟩
theorem K_FP_295 : LV "FlatPlan" 295 (RC 6) M_Searches_evictedPrices 2 := ⟨LB_Searches_evictedPrices, q_1298, q_1299, q_1300⟩
theorem K_Searches_112 : LV "FlatPlan$Searches" 112 (RC 4) M_Plan_isUnfit 2 := ⟨LB_Plan_isUnfit, q_1302, q_1303, q_1304⟩
theorem K_Searches_118 : LV "FlatPlan$Searches" 118 (RC 6) M_Searches_rivalPricesBeside 2 := ⟨LB_Searches_rivalPricesBeside, q_1306, q_1308, qs_40⟩
theorem K_Searches_121 : LV "FlatPlan$Searches" 121 (RC 6) M_Searches_pricesForRoom 2 := ⟨LB_Searches_pricesForRoom, q_1311, q_1313, qs_41⟩
theorem K_Searches_124 : LV "FlatPlan$Searches" 124 (RC 0) M_Ads_areRivals 2 := ⟨LB_Ads_areRivals, q_1310, q_814, q_815⟩
theorem K_Searches_130 : LV "FlatPlan$Searches" 130 (RC 6) M_Searches_removedPrices 4 := ⟨LB_Searches_removedPrices, q_1315, q_1317, qs_42⟩
theorem K_Searches_134 : LV "FlatPlan$Searches" 134 (RC 4) M_Plan_roomFor 2 := ⟨LB_Plan_roomFor, q_1319, q_615, q_616⟩
theorem K_Law_97 : LV "FlatPlanLaw" 97 (RC 10) M_FP_cheapestPage 1 := ⟨LB_FP_cheapestPage, q_1323, q_1324, q_1325⟩
theorem K_FP_298 : LV "FlatPlan" 298 (RC 6) M_Searches_cheapestFor 1 := ⟨LB_Searches_cheapestFor, q_1327, q_1328, q_1329⟩
theorem K_Searches_137 : LV "FlatPlan$Searches" 137 (RC 6) M_Searches_evictedPrices 2 := ⟨LB_Searches_evictedPrices, q_1331, q_1299, q_1300⟩
theorem K_Law_100 : LV "FlatPlanLaw" 100 (RC 10) M_FP_bestColor 1 := ⟨LB_FP_bestColor, q_1335, q_1336, q_1337⟩
theorem K_FP_306 : LV "FlatPlan" 306 (RC 6) M_Searches_roomiestForms 1 := ⟨LB_Searches_roomiestForms, q_1340, q_1341, q_1342⟩
theorem K_Searches_159 : LQ "FlatPlan$Searches" 159 M_Integer_bitCount 1 := ⟨LB_Integer_bitCount, q_1344, q_1345⟩
theorem K_Searches_164 : LV "FlatPlan$Searches" 164 (RC 6) M_Searches_leftOnSet 1 := ⟨LB_Searches_leftOnSet, q_1350, q_1352, qs_43⟩
theorem K_Searches_178 : LV "FlatPlan$Searches" 178 (RC 4) M_Plan_leftOnForm 1 := ⟨LB_Plan_leftOnForm, q_1354, q_1128, q_1129⟩
theorem K_Law_103 : LV "FlatPlanLaw" 103 (RC 10) M_FP_groupOn 2 := ⟨LB_FP_groupOn, q_1358, q_1359, q_1360⟩
theorem K_FP_329 : LQ "FlatPlan" 329 M_FP_needGroup 1 := ⟨LB_FP_needGroup, q_1362, q_1363⟩
theorem K_Law_106 : LV "FlatPlanLaw" 106 (RC 10) M_FP_spreadsOf 1 := ⟨LB_FP_spreadsOf, q_1370, q_1371, q_1372⟩
theorem K_Law_109 : LV "FlatPlanLaw" 109 (RC 10) M_FP_revenueOf 1 := ⟨LB_FP_revenueOf, q_1377, q_1378, q_1379⟩
theorem K_Law_112 : LV "FlatPlanLaw" 112 (RC 10) M_FP_revenueOfGroup 1 := ⟨LB_FP_revenueOfGroup, q_1384, q_1385, q_1386⟩
theorem K_Law_115 : LV "FlatPlanLaw" 115 (RC 10) M_FP_emptyRun 1 := ⟨LB_FP_emptyRun, q_1391, q_1392, q_1393⟩
theorem K_Law_118 : LV "FlatPlanLaw" 118 (RC 10) M_FP_quarterPrice 0 := ⟨LB_FP_quarterPrice, q_1413, q_1414, q_1415⟩
theorem K_FP_348 : LV "FlatPlan" 348 (RC 10) M_FP_revenue 0 := ⟨LB_FP_revenue, q_1420, q_881, q_882⟩
theorem K_Law_124 : LV "FlatPlanLaw" 124 (RC 10) M_FP_describe 1 := ⟨LB_FP_describe, q_1424, q_1425, q_1426⟩
theorem K_FP_351 : LV "FlatPlan" 351 (RC 1) M_Bytes_addItem 2 := ⟨LB_Bytes_addItem, q_1428, q_1429, q_1430⟩
theorem K_Mo_49 : LV "FlatPlanModel" 49 (RC 11) M_Mo_clearBlock 1 := ⟨LB_Mo_clearBlock, q_1438, q_1440, qs_44⟩
theorem K_Mo_59 : LV "FlatPlanModel" 59 (RC 11) M_Mo_copyBlock 2 := ⟨LB_Mo_copyBlock, q_1518, q_1520, qs_45⟩
theorem K_Mo_122 : LV "FlatPlanModel" 122 (RC 11) M_Mo_isAd 1 := ⟨LB_Mo_isAd, q_1530, q_1532, qs_46⟩
theorem K_Mo_125 : LV "FlatPlanModel" 125 (RC 11) M_Mo_throwsIf 2 := ⟨LB_Mo_throwsIf, q_1537, q_1539, qs_47⟩
theorem K_Mo_129 : LV "FlatPlanModel" 129 (RC 11) M_Mo_reasonOf 2 := ⟨LB_Mo_reasonOf, q_1541, q_1543, qs_48⟩
theorem K_Mo_67 : LQ "FlatPlanModel" 67 M_Mo_inRange 3 := ⟨LB_Mo_inRange, q_1534, q_1535⟩
theorem K_Mo_105 : LV "FlatPlanModel" 105 (RC 11) M_Mo_isPage 1 := ⟨LB_Mo_isPage, q_1545, q_1547, qs_49⟩
theorem K_Mo_109 : LV "FlatPlanModel" 109 (RC 11) M_Mo_isPrinted 1 := ⟨LB_Mo_isPrinted, q_1553, q_1555, qs_51⟩
theorem K_Mo_102 : LV "FlatPlanModel" 102 (RC 11) M_Mo_leftOn 3 := ⟨LB_Mo_leftOn, q_1565, q_1567, qs_54⟩
theorem K_Mo_82 : LV "FlatPlanModel" 82 (RC 11) M_Mo_ofAd 2 := ⟨LB_Mo_ofAd, q_1585, q_1587, qs_59⟩
theorem K_Mo_112 : LV "FlatPlanModel" 112 (RC 11) M_Mo_hasColor 1 := ⟨LB_Mo_hasColor, q_1593, q_1595, qs_61⟩
theorem K_Mo_115 : LQ "FlatPlanModel" 115 M_Mo_isOnSide 2 := ⟨LB_Mo_isOnSide, q_1597, q_1598⟩
theorem K_Mo_118 : LV "FlatPlanModel" 118 (RC 11) M_Mo_hasRival 2 := ⟨LB_Mo_hasRival, q_1600, q_1602, qs_62⟩
theorem K_Mo_63 : LV "FlatPlanModel" 63 (RC 11) M_Mo_pageMany 0 := ⟨LB_Mo_pageMany, q_1549, q_1551, qs_50⟩
theorem K_Mo_74 : LV "FlatPlanModel" 74 (RC 11) M_Mo_formOf 1 := ⟨LB_Mo_formOf, q_1557, q_1559, qs_52⟩
theorem K_Mo_78 : LV "FlatPlanModel" 78 (RC 11) M_Mo_ofForm 2 := ⟨LB_Mo_ofForm, q_1561, q_1563, qs_53⟩
theorem K_Mo_95 : LV "FlatPlanModel" 95 (RC 11) M_Mo_storyOn 2 := ⟨LB_Mo_storyOn, q_1569, q_1571, qs_55⟩
theorem K_Mo_98 : LV "FlatPlanModel" 98 (RC 11) M_Mo_roomOn 3 := ⟨LB_Mo_roomOn, q_1581, q_1583, qs_58⟩
theorem K_Mo_88 : LV "FlatPlanModel" 88 (RC 11) M_Mo_covers 2 := ⟨LB_Mo_covers, q_1573, q_1575, qs_56⟩
theorem K_Mo_85 : LV "FlatPlanModel" 85 (RC 11) M_Mo_ofStory 2 := ⟨LB_Mo_ofStory, q_1577, q_1579, qs_57⟩
theorem K_Mo_92 : LV "FlatPlanModel" 92 (RC 11) M_Mo_ofStandby 2 := ⟨LB_Mo_ofStandby, q_1589, q_1591, qs_60⟩
theorem K_Mo_132 : LV "FlatPlanModel" 132 (RC 11) M_Mo_isStory 1 := ⟨LB_Mo_isStory, q_1608, q_1610, qs_63⟩
theorem K_Mo_135 : LV "FlatPlanModel" 135 (RC 11) M_Mo_storyReasonOf 2 := ⟨LB_Mo_storyReasonOf, q_1612, q_1614, qs_64⟩
theorem K_Mo_71 : LV "FlatPlanModel" 71 (RC 11) M_Mo_formMany 0 := ⟨LB_Mo_formMany, q_1621, q_1623, qs_65⟩
theorem K_Mo_138 : LV "FlatPlanModel" 138 (RC 11) M_Mo_placedAds 0 := ⟨LB_Mo_placedAds, q_1625, q_1627, qs_66⟩
theorem K_Mo_141 : LV "FlatPlanModel" 141 (RC 11) M_Mo_placedStories 0 := ⟨LB_Mo_placedStories, q_1629, q_1631, qs_67⟩
theorem K_Mo_144 : LV "FlatPlanModel" 144 (RC 11) M_Mo_usedStandbys 0 := ⟨LB_Mo_usedStandbys, q_1633, q_1635, qs_68⟩
theorem K_Mo_147 : LV "FlatPlanModel" 147 (RC 11) M_Mo_formsWith 1 := ⟨LB_Mo_formsWith, q_1637, q_1639, qs_69⟩
theorem K_Mo_150 : LQ "FlatPlanModel" 150 M_Mo_isSize 1 := ⟨LB_Mo_isSize, q_1645, q_1646⟩
theorem K_Mo_159 : LV "FlatPlanModel" 159 (RC 11) M_Mo_record 0 := ⟨LB_Mo_record, q_1651, q_1653, qs_70⟩
theorem K_Mo_162 : LV "FlatPlanModel" 162 (RC 11) M_Mo_setOfAd 3 := ⟨LB_Mo_setOfAd, q_1655, q_1657, qs_71⟩
theorem K_Mo_170 : LQ "FlatPlanModel" 170 M_Mo_toldPage 1 := ⟨LB_Mo_toldPage, q_1673, q_1674⟩
theorem K_Mo_173 : LV "FlatPlanModel" 173 (RC 11) M_Mo_isAdLate 1 := ⟨LB_Mo_isAdLate, q_1676, q_1678, qs_72⟩
theorem K_Mo_178 : LV "FlatPlanModel" 178 (RC 11) M_Mo_isStoryLate 1 := ⟨LB_Mo_isStoryLate, q_1685, q_1687, qs_73⟩
theorem K_Mo_181 : LV "FlatPlanModel" 181 (RC 11) M_Mo_isStandby 1 := ⟨LB_Mo_isStandby, q_1693, q_1695, qs_74⟩
theorem K_Mo_184 : LV "FlatPlanModel" 184 (RC 11) M_Mo_left 1 := ⟨LB_Mo_left, q_1701, q_1703, qs_75⟩
theorem K_Mo_187 : LV "FlatPlanModel" 187 (RC 11) M_Mo_adsOn 1 := ⟨LB_Mo_adsOn, q_1705, q_1707, qs_76⟩
theorem K_Mo_190 : LV "FlatPlanModel" 190 (RC 11) M_Mo_standbysOn 1 := ⟨LB_Mo_standbysOn, q_1709, q_1711, qs_77⟩
theorem K_Mo_199 : LV "FlatPlanModel" 199 (RC 11) M_Mo_isForm 1 := ⟨LB_Mo_isForm, q_1721, q_1723, qs_78⟩
theorem K_Mo_202 : LV "FlatPlanModel" 202 (RC 11) M_Mo_leftOnForm 1 := ⟨LB_Mo_leftOnForm, q_1725, q_1727, qs_79⟩
theorem K_Mo_205 : LV "FlatPlanModel" 205 (RC 11) M_Mo_adsOnForm 1 := ⟨LB_Mo_adsOnForm, q_1729, q_1731, qs_80⟩
theorem K_Mo_208 : LV "FlatPlanModel" 208 (RC 11) M_Mo_lateOnForm 1 := ⟨LB_Mo_lateOnForm, q_1737, q_1739, qs_82⟩
theorem K_Mo_211 : LV "FlatPlanModel" 211 (RC 11) M_Mo_hasColored 1 := ⟨LB_Mo_hasColored, q_1745, q_1747, qs_84⟩
theorem K_Mo_193 : LV "FlatPlanModel" 193 (RC 11) M_Mo_isAdOnForm 2 := ⟨LB_Mo_isAdOnForm, q_1733, q_1735, qs_81⟩
theorem K_Mo_196 : LV "FlatPlanModel" 196 (RC 11) M_Mo_hasPageOn 2 := ⟨LB_Mo_hasPageOn, q_1741, q_1743, qs_83⟩
theorem K_Mo_214 : LV "FlatPlanModel" 214 (RC 11) M_Mo_isStoryPrinted 1 := ⟨LB_Mo_isStoryPrinted, q_1761, q_1763, qs_85⟩
theorem K_Mo_217 : LV "FlatPlanModel" 217 (RC 11) M_Mo_setStandby 2 := ⟨LB_Mo_setStandby, q_1777, q_1779, qs_86⟩
theorem K_Mo_229 : LV "FlatPlanModel" 229 (RC 11) M_Mo_exchangeReason 2 := ⟨LB_Mo_exchangeReason, q_1789, q_1791, qs_87⟩
theorem K_Mo_223 : LV "FlatPlanModel" 223 (RC 11) M_Mo_swapPages 2 := ⟨LB_Mo_swapPages, q_1793, q_1795, qs_88⟩
theorem K_Mo_226 : LV "FlatPlanModel" 226 (RC 11) M_Mo_flawOn 2 := ⟨LB_Mo_flawOn, q_1800, q_1802, qs_89⟩
theorem K_Mo_220 : LQ "FlatPlanModel" 220 M_Mo_otherOf 3 := ⟨LB_Mo_otherOf, q_1797, q_1798⟩
theorem K_Mo_232 : LV "FlatPlanModel" 232 (RC 11) M_Mo_setForm 3 := ⟨LB_Mo_setForm, q_1808, q_1810, qs_90⟩
theorem K_Mo_238 : LV "FlatPlanModel" 238 (RC 11) M_Mo_close 1 := ⟨LB_Mo_close, q_1816, q_1818, qs_91⟩
theorem K_Mo_235 : LV "FlatPlanModel" 235 (RC 11) M_Mo_freeStandby 1 := ⟨LB_Mo_freeStandby, q_1820, q_1822, qs_92⟩
theorem K_Mo_243 : LV "FlatPlanModel" 243 (RC 11) M_Mo_hour 0 := ⟨LB_Mo_hour, q_1829, q_1831, qs_93⟩
theorem K_Mo_246 : LV "FlatPlanModel" 246 (RC 11) M_Mo_nextForm 0 := ⟨LB_Mo_nextForm, q_1841, q_1843, qs_94⟩
theorem K_Mo_249 : LV "FlatPlanModel" 249 (RC 11) M_Mo_isAhead 2 := ⟨LB_Mo_isAhead, q_1857, q_1859, qs_95⟩
theorem K_Mo_252 : LV "FlatPlanModel" 252 (RC 11) M_Mo_firstOf 2 := ⟨LB_Mo_firstOf, q_1861, q_1863, qs_96⟩
theorem K_Mo_255 : LV "FlatPlanModel" 255 (RC 11) M_Mo_choicesOf 1 := ⟨LB_Mo_choicesOf, q_1873, q_1875, qs_97⟩
theorem K_Mo_261 : LV "FlatPlanModel" 261 (RC 11) M_Mo_evictionOf 2 := ⟨LB_Mo_evictionOf, q_1889, q_1891, qs_98⟩
theorem K_Mo_258 : LV "FlatPlanModel" 258 (RC 11) M_Mo_leastOf 2 := ⟨LB_Mo_leastOf, q_1893, q_1895, qs_99⟩
theorem K_Mo_267 : LV "FlatPlanModel" 267 (RC 11) M_Mo_joins 1 := ⟨LB_Mo_joins, q_1905, q_1907, qs_100⟩
theorem K_Mo_264 : LV "FlatPlanModel" 264 (RC 11) M_Mo_givesBack 2 := ⟨LB_Mo_givesBack, q_1909, q_1911, qs_101⟩
theorem K_Mo_272 : LV "FlatPlanModel" 272 (RC 11) M_Mo_ofGroupOn 2 := ⟨LB_Mo_ofGroupOn, q_1926, q_1928, qs_102⟩
theorem K_Mo_275 : LV "FlatPlanModel" 275 (RC 11) M_Mo_revenueBy 1 := ⟨LB_Mo_revenueBy, q_1938, q_1940, qs_103⟩
theorem K_Mo_287 : LV "FlatPlanModel" 287 (RC 11) M_Mo_isLateItem 1 := ⟨LB_Mo_isLateItem, q_1954, q_1956, qs_104⟩
theorem K_Mo_281 : LV "FlatPlanModel" 281 (RC 11) M_Mo_readyOf 1 := ⟨LB_Mo_readyOf, q_1962, q_1964, qs_106⟩
theorem K_Mo_278 : LV "FlatPlanModel" 278 (RC 11) M_Mo_isItem 1 := ⟨LB_Mo_isItem, q_1958, q_1960, qs_105⟩
theorem K_Mo_284 : LV "FlatPlanModel" 284 (RC 11) M_Mo_isOnOpenForm 1 := ⟨LB_Mo_isOnOpenForm, q_1966, q_1968, qs_107⟩
theorem K_Mo_290 : LV "FlatPlanModel" 290 (RC 11) M_Mo_coloredForms 0 := ⟨LB_Mo_coloredForms, q_1978, q_1980, qs_108⟩
theorem K_Mo_301 : LV "FlatPlanModel" 301 (RC 11) M_Mo_writeItem 2 := ⟨LB_Mo_writeItem, q_2003, q_2005, qs_109⟩
theorem K_Mo_298 : LV "FlatPlanModel" 298 (RC 11) M_Mo_write 1 := ⟨LB_Mo_write, q_2007, q_2009, qs_110⟩
theorem K_Mo_307 : LV "FlatPlanModel" 307 (RC 11) M_Mo_appendBytes 1 := ⟨LB_Mo_appendBytes, q_2023, q_2025, qs_111⟩
theorem K_Mo_355 : LV "FlatPlanModel" 355 (RC 11) M_Mo_advance 0 := ⟨LB_Mo_advance, q_2043, q_2045, qs_112⟩
theorem K_Mo_376 : LQ "FlatPlanModel" 376 M_Mo_pack 5 := ⟨LB_Mo_pack, q_2064, q_2065⟩
theorem K_Mo_380 : LV "FlatPlanModel" 380 (RC 11) M_Mo_isWord 1 := ⟨LB_Mo_isWord, q_2067, q_2069, qs_114⟩
theorem K_Mo_407 : LV "FlatPlanModel" 407 (RC 11) M_Mo_readPlan 0 := ⟨LB_Mo_readPlan, q_2071, q_2073, qs_115⟩
theorem K_Mo_410 : LV "FlatPlanModel" 410 (RC 11) M_Mo_readStatement 0 := ⟨LB_Mo_readStatement, q_2089, q_2091, qs_119⟩
theorem K_Mo_324 : LV "FlatPlanModel" 324 (RC 11) M_Mo_byteAt 1 := ⟨LB_Mo_byteAt, q_2047, q_2049, qs_113⟩
theorem K_Mo_334 : LQ "FlatPlanModel" 334 M_Mo_isLetter 1 := ⟨LB_Mo_isLetter, q_2051, q_2052⟩
theorem K_Mo_337 : LQ "FlatPlanModel" 337 M_Mo_isDigit 1 := ⟨LB_Mo_isDigit, q_2056, q_2057⟩
theorem K_Mo_358 : LV "FlatPlanModel" 358 (RC 11) M_Mo_readNumber 2 := ⟨LB_Mo_readNumber, q_2075, q_2077, qs_116⟩
theorem K_Mo_349 : LV "FlatPlanModel" 349 (RC 11) M_Mo_fail 1 := ⟨LB_Mo_fail, q_2079, q_2081, qs_117⟩
theorem K_Mo_369 : LV "FlatPlanModel" 369 (RC 11) M_Mo_readEnd 0 := ⟨LB_Mo_readEnd, q_2085, q_2087, qs_118⟩
theorem K_Mo_384 : LV "FlatPlanModel" 384 (RC 11) M_Mo_readColor 0 := ⟨LB_Mo_readColor, q_2093, q_2095, qs_120⟩
theorem K_Mo_387 : LV "FlatPlanModel" 387 (RC 11) M_Mo_readAd 0 := ⟨LB_Mo_readAd, q_2097, q_2099, qs_121⟩
theorem K_Mo_390 : LV "FlatPlanModel" 390 (RC 11) M_Mo_readStory 0 := ⟨LB_Mo_readStory, q_2109, q_2111, qs_124⟩
theorem K_Mo_397 : LV "FlatPlanModel" 397 (RC 11) M_Mo_readStandby 0 := ⟨LB_Mo_readStandby, q_2115, q_2117, qs_125⟩
theorem K_Mo_400 : LV "FlatPlanModel" 400 (RC 11) M_Mo_readClosing 0 := ⟨LB_Mo_readClosing, q_2119, q_2121, qs_126⟩
theorem K_Mo_403 : LV "FlatPlanModel" 403 (RC 11) M_Mo_readPlace 1 := ⟨LB_Mo_readPlace, q_2123, q_2125, qs_127⟩
theorem K_Mo_373 : LV "FlatPlanModel" 373 (RC 11) M_Mo_readSize 1 := ⟨LB_Mo_readSize, q_2101, q_2103, qs_122⟩
theorem K_Mo_361 : LV "FlatPlanModel" 361 (RC 11) M_Mo_readInto 3 := ⟨LB_Mo_readInto, q_2105, q_2107, qs_123⟩
theorem K_String_335 : LV "java/lang/String" 335 "java/lang/String" M_String_coder 0 := ⟨LB_String_coder, q_489, q_490, q_491⟩
theorem K_String_492 : LV "java/lang/String" 492 "java/lang/String" M_String_isLatin1 0 := ⟨LB_String_isLatin1, q_499, q_500, q_501⟩
theorem K_String_495 : LQ "java/lang/String" 495 M_StringLatin1_charAt 2 := ⟨LB_StringLatin1_charAt, q_503, q_504⟩
theorem K_StringLatin1_9 : LQ "java/lang/StringLatin1" 9 M_String_checkIndex 2 := ⟨LB_String_checkIndex, q_506, q_507⟩
theorem K_String_1059 : LQ "java/lang/String" 1059 M_Preconditions_checkIndex 3 := ⟨LB_Preconditions_checkIndex, q_511, q_512⟩
theorem K_Law_127 : LI "FlatPlanLaw" 127 M_FP_init 0 := ⟨LB_FP_init, q_30, q_31, rfl, rfl⟩
theorem K_Law_130 : LI "FlatPlanLaw" 130 M_Mo_init 0 := ⟨LB_Mo_init, q_1434, q_1435, rfl, rfl⟩
theorem K_Law_131 : LV "FlatPlanLaw" 131 (RC 10) M_FP_appendInput 5 := ⟨LB_FP_appendInput, q_441, q_442, q_443⟩
theorem K_Law_135 : LV "FlatPlanLaw" 135 (RC 11) M_Mo_appendInput 5 := ⟨LB_Mo_appendInput, q_2019, q_2020, q_2021⟩
theorem K_Law_136 : LV "FlatPlanLaw" 136 (RC 10) M_FP_truncateInput 1 := ⟨LB_FP_truncateInput, q_453, q_454, q_455⟩
theorem K_Law_139 : LV "FlatPlanLaw" 139 (RC 11) M_Mo_truncateInput 1 := ⟨LB_Mo_truncateInput, q_2027, q_2028, q_2029⟩
theorem K_Law_140 : LV "FlatPlanLaw" 140 (RC 10) M_FP_load 0 := ⟨LB_FP_load, q_457, q_458, q_459⟩
theorem K_Law_144 : LV "FlatPlanLaw" 144 (RC 11) M_Mo_load 0 := ⟨LB_Mo_load, q_2039, q_2040, q_2041⟩
theorem K_Law_145 : LV "FlatPlanLaw" 145 (RC 10) M_FP_errorCode 0 := ⟨LB_FP_errorCode, q_681, q_682, q_683⟩
theorem K_Law_148 : LV "FlatPlanLaw" 148 (RC 11) M_Mo_errorCode 0 := ⟨LB_Mo_errorCode, q_2031, q_2032, q_2033⟩
theorem K_Law_149 : LV "FlatPlanLaw" 149 (RC 10) M_FP_errorPosition 0 := ⟨LB_FP_errorPosition, q_685, q_686, q_687⟩
theorem K_Law_152 : LV "FlatPlanLaw" 152 (RC 11) M_Mo_errorPosition 0 := ⟨LB_Mo_errorPosition, q_2035, q_2036, q_2037⟩
theorem K_Law_153 : LV "FlatPlanLaw" 153 (RC 10) M_FP_count 1 := ⟨LB_FP_count, q_689, q_690, q_691⟩
theorem K_Law_156 : LV "FlatPlanLaw" 156 (RC 11) M_Mo_count 1 := ⟨LB_Mo_count, q_1617, q_1618, q_1619⟩
theorem K_Law_157 : LH "FlatPlanLaw" 157 M_Law_addAd 6 := ⟨q_0, q_921, ne_Law, pd_38, q_919, q_920⟩
theorem K_Law_162 : LV "FlatPlanLaw" 162 (RC 11) M_Mo_addAd 4 := ⟨LB_Mo_addAd, q_1641, q_1642, q_1643⟩
theorem K_Law_163 : LV "FlatPlanLaw" 163 (RC 11) M_Mo_thrown 0 := ⟨LB_Mo_thrown, q_1510, q_1511, q_1512⟩
theorem K_Law_166 : LH "FlatPlanLaw" 166 M_Law_setAd 5 := ⟨q_0, q_1002, ne_Law, pd_39, q_1000, q_1001⟩
theorem K_Law_169 : LV "FlatPlanLaw" 169 (RC 11) M_Mo_setAd 3 := ⟨LB_Mo_setAd, q_1659, q_1660, q_1661⟩
theorem K_Law_170 : LH "FlatPlanLaw" 170 M_Law_setPrice 4 := ⟨q_0, q_1051, ne_Law, pd_40, q_1049, q_1050⟩
theorem K_Law_173 : LV "FlatPlanLaw" 173 (RC 11) M_Mo_setPrice 2 := ⟨LB_Mo_setPrice, q_1664, q_1665, q_1666⟩
theorem K_Law_174 : LH "FlatPlanLaw" 174 M_Law_ad 4 := ⟨q_0, q_1059, ne_Law, pd_40, q_1057, q_1058⟩
theorem K_Law_176 : LV "FlatPlanLaw" 176 (RC 11) M_Mo_ad 2 := ⟨LB_Mo_ad, q_1668, q_1669, q_1670⟩
theorem K_Law_177 : LH "FlatPlanLaw" 177 M_Law_story 4 := ⟨q_0, q_1070, ne_Law, pd_40, q_1068, q_1069⟩
theorem K_Law_179 : LV "FlatPlanLaw" 179 (RC 11) M_Mo_story 2 := ⟨LB_Mo_story, q_1680, q_1681, q_1682⟩
theorem K_Law_180 : LH "FlatPlanLaw" 180 M_Law_standby 4 := ⟨q_0, q_1082, ne_Law, pd_40, q_1080, q_1081⟩
theorem K_Law_182 : LV "FlatPlanLaw" 182 (RC 11) M_Mo_standby 2 := ⟨LB_Mo_standby, q_1689, q_1690, q_1691⟩
theorem K_Law_183 : LH "FlatPlanLaw" 183 M_Law_page 4 := ⟨q_0, q_1094, ne_Law, pd_40, q_1092, q_1093⟩
theorem K_Law_185 : LV "FlatPlanLaw" 185 (RC 11) M_Mo_page 2 := ⟨LB_Mo_page, q_1697, q_1698, q_1699⟩
theorem K_Law_186 : LH "FlatPlanLaw" 186 M_Law_adOn 4 := ⟨q_0, q_1110, ne_Law, pd_40, q_1108, q_1109⟩
theorem K_Law_188 : LV "FlatPlanLaw" 188 (RC 11) M_Mo_adOn 2 := ⟨LB_Mo_adOn, q_1713, q_1714, q_1715⟩
theorem K_Law_189 : LH "FlatPlanLaw" 189 M_Law_form 4 := ⟨q_0, q_1117, ne_Law, pd_40, q_1115, q_1116⟩
theorem K_Law_191 : LV "FlatPlanLaw" 191 (RC 11) M_Mo_form 2 := ⟨LB_Mo_form, q_1717, q_1718, q_1719⟩
theorem K_Law_192 : LH "FlatPlanLaw" 192 M_Law_pageOf 4 := ⟨q_0, q_1146, ne_Law, pd_40, q_1144, q_1145⟩
theorem K_Law_194 : LV "FlatPlanLaw" 194 (RC 11) M_Mo_pageOf 2 := ⟨LB_Mo_pageOf, q_1749, q_1750, q_1751⟩
theorem K_Law_195 : LH "FlatPlanLaw" 195 M_Law_reason 4 := ⟨q_0, q_1153, ne_Law, pd_40, q_1151, q_1152⟩
theorem K_Law_197 : LV "FlatPlanLaw" 197 (RC 11) M_Mo_reason 2 := ⟨LB_Mo_reason, q_1526, q_1527, q_1528⟩
theorem K_Law_198 : LH "FlatPlanLaw" 198 M_Law_storyReason 4 := ⟨q_0, q_1161, ne_Law, pd_40, q_1159, q_1160⟩
theorem K_Law_200 : LV "FlatPlanLaw" 200 (RC 11) M_Mo_storyReason 2 := ⟨LB_Mo_storyReason, q_1604, q_1605, q_1606⟩
theorem K_Law_201 : LH "FlatPlanLaw" 201 M_Law_put 4 := ⟨q_0, q_1169, ne_Law, pd_40, q_1167, q_1168⟩
theorem K_Law_203 : LV "FlatPlanLaw" 203 (RC 11) M_Mo_put 2 := ⟨LB_Mo_put, q_1753, q_1754, q_1755⟩
theorem K_Law_204 : LH "FlatPlanLaw" 204 M_Law_lay 4 := ⟨q_0, q_1178, ne_Law, pd_40, q_1176, q_1177⟩
theorem K_Law_206 : LV "FlatPlanLaw" 206 (RC 11) M_Mo_lay 2 := ⟨LB_Mo_lay, q_1757, q_1758, q_1759⟩
theorem K_Law_207 : LH "FlatPlanLaw" 207 M_Law_take 3 := ⟨q_0, q_1189, ne_Law, pd_41, q_1187, q_1188⟩
theorem K_Law_210 : LV "FlatPlanLaw" 210 (RC 11) M_Mo_take 1 := ⟨LB_Mo_take, q_1765, q_1766, q_1767⟩
theorem K_Law_211 : LH "FlatPlanLaw" 211 M_Law_takeStory 3 := ⟨q_0, q_1196, ne_Law, pd_41, q_1194, q_1195⟩
theorem K_Law_213 : LV "FlatPlanLaw" 213 (RC 11) M_Mo_takeStory 1 := ⟨LB_Mo_takeStory, q_1769, q_1770, q_1771⟩
theorem K_Law_214 : LH "FlatPlanLaw" 214 M_Law_use 4 := ⟨q_0, q_1203, ne_Law, pd_40, q_1201, q_1202⟩
theorem K_Law_216 : LV "FlatPlanLaw" 216 (RC 11) M_Mo_use 2 := ⟨LB_Mo_use, q_1773, q_1774, q_1775⟩
theorem K_Law_217 : LH "FlatPlanLaw" 217 M_Law_clear 3 := ⟨q_0, q_1214, ne_Law, pd_41, q_1212, q_1213⟩
theorem K_Law_219 : LV "FlatPlanLaw" 219 (RC 11) M_Mo_clear 1 := ⟨LB_Mo_clear, q_1781, q_1782, q_1783⟩
theorem K_Law_220 : LH "FlatPlanLaw" 220 M_Law_exchange 4 := ⟨q_0, q_1221, ne_Law, pd_40, q_1219, q_1220⟩
theorem K_Law_222 : LV "FlatPlanLaw" 222 (RC 11) M_Mo_exchange 2 := ⟨LB_Mo_exchange, q_1785, q_1786, q_1787⟩
theorem K_Law_223 : LH "FlatPlanLaw" 223 M_Law_setColor 4 := ⟨q_0, q_1230, ne_Law, pd_42, q_1228, q_1229⟩
theorem K_Law_226 : LV "FlatPlanLaw" 226 (RC 11) M_Mo_setColor 2 := ⟨LB_Mo_setColor, q_1804, q_1805, q_1806⟩
theorem K_Law_227 : LH "FlatPlanLaw" 227 M_Law_setClosing 4 := ⟨q_0, q_1237, ne_Law, pd_40, q_1235, q_1236⟩
theorem K_Law_229 : LV "FlatPlanLaw" 229 (RC 11) M_Mo_setClosing 2 := ⟨LB_Mo_setClosing, q_1812, q_1813, q_1814⟩
theorem K_Law_230 : LH "FlatPlanLaw" 230 M_Law_pass 3 := ⟨q_0, q_1262, ne_Law, pd_41, q_1260, q_1261⟩
theorem K_Law_232 : LV "FlatPlanLaw" 232 (RC 11) M_Mo_pass 1 := ⟨LB_Mo_pass, q_1824, q_1825, q_1826⟩
theorem K_Law_233 : LH "FlatPlanLaw" 233 M_Law_print 3 := ⟨q_0, q_1270, ne_Law, pd_41, q_1268, q_1269⟩
theorem K_Law_235 : LV "FlatPlanLaw" 235 (RC 11) M_Mo_print 1 := ⟨LB_Mo_print, q_1833, q_1834, q_1835⟩
theorem K_Law_236 : LV "FlatPlanLaw" 236 (RC 10) M_FP_nextClosing 0 := ⟨LB_FP_nextClosing, q_696, q_697, q_698⟩
theorem K_Law_239 : LV "FlatPlanLaw" 239 (RC 11) M_Mo_nextClosing 0 := ⟨LB_Mo_nextClosing, q_1837, q_1838, q_1839⟩
theorem K_Law_240 : LV "FlatPlanLaw" 240 (RC 10) M_FP_placeAds 0 := ⟨LB_FP_placeAds, q_704, q_705, q_706⟩
theorem K_Law_243 : LV "FlatPlanLaw" 243 (RC 11) M_Mo_placeAds 0 := ⟨LB_Mo_placeAds, q_1853, q_1854, q_1855⟩
theorem K_Law_244 : LV "FlatPlanLaw" 244 (RC 10) M_FP_layStories 0 := ⟨LB_FP_layStories, q_735, q_736, q_737⟩
theorem K_Law_247 : LV "FlatPlanLaw" 247 (RC 11) M_Mo_layStories 0 := ⟨LB_Mo_layStories, q_1865, q_1866, q_1867⟩
theorem K_Law_248 : LH "FlatPlanLaw" 248 M_Law_choices 3 := ⟨q_0, q_1277, ne_Law, pd_41, q_1275, q_1276⟩
theorem K_Law_250 : LV "FlatPlanLaw" 250 (RC 11) M_Mo_choices 1 := ⟨LB_Mo_choices, q_1869, q_1870, q_1871⟩
theorem K_Law_251 : LH "FlatPlanLaw" 251 M_Law_firstPage 4 := ⟨q_0, q_1285, ne_Law, pd_40, q_1283, q_1284⟩
theorem K_Law_253 : LV "FlatPlanLaw" 253 (RC 11) M_Mo_firstPage 2 := ⟨LB_Mo_firstPage, q_1877, q_1878, q_1879⟩
theorem K_Law_254 : LV "FlatPlanLaw" 254 (RC 10) M_FP_tightest 0 := ⟨LB_FP_tightest, q_748, q_749, q_750⟩
theorem K_Law_257 : LV "FlatPlanLaw" 257 (RC 11) M_Mo_tightest 0 := ⟨LB_Mo_tightest, q_1881, q_1882, q_1883⟩
theorem K_Law_258 : LH "FlatPlanLaw" 258 M_Law_eviction 4 := ⟨q_0, q_1293, ne_Law, pd_40, q_1291, q_1292⟩
theorem K_Law_260 : LV "FlatPlanLaw" 260 (RC 11) M_Mo_eviction 2 := ⟨LB_Mo_eviction, q_1885, q_1886, q_1887⟩
theorem K_Law_261 : LH "FlatPlanLaw" 261 M_Law_cheapestPage 3 := ⟨q_0, q_1322, ne_Law, pd_41, q_1320, q_1321⟩
theorem K_Law_263 : LV "FlatPlanLaw" 263 (RC 11) M_Mo_cheapestPage 1 := ⟨LB_Mo_cheapestPage, q_1897, q_1898, q_1899⟩
theorem K_Law_264 : LV "FlatPlanLaw" 264 (RC 10) M_FP_matching 0 := ⟨LB_FP_matching, q_761, q_762, q_763⟩
theorem K_Law_267 : LV "FlatPlanLaw" 267 (RC 11) M_Mo_matching 0 := ⟨LB_Mo_matching, q_1901, q_1902, q_1903⟩
theorem K_Law_268 : LH "FlatPlanLaw" 268 M_Law_bestColor 3 := ⟨q_0, q_1334, ne_Law, pd_41, q_1332, q_1333⟩
theorem K_Law_270 : LV "FlatPlanLaw" 270 (RC 11) M_Mo_bestColor 1 := ⟨LB_Mo_bestColor, q_1913, q_1914, q_1915⟩
theorem K_Law_271 : LV "FlatPlanLaw" 271 (RC 10) M_FP_nearRivals 0 := ⟨LB_FP_nearRivals, q_872, q_873, q_874⟩
theorem K_Law_274 : LV "FlatPlanLaw" 274 (RC 11) M_Mo_nearRivals 0 := ⟨LB_Mo_nearRivals, q_1918, q_1919, q_1920⟩
theorem K_Law_275 : LH "FlatPlanLaw" 275 M_Law_groupOn 4 := ⟨q_0, q_1357, ne_Law, pd_40, q_1355, q_1356⟩
theorem K_Law_277 : LV "FlatPlanLaw" 277 (RC 11) M_Mo_groupOn 2 := ⟨LB_Mo_groupOn, q_1922, q_1923, q_1924⟩
theorem K_Law_278 : LH "FlatPlanLaw" 278 M_Law_spreadsOf 3 := ⟨q_0, q_1369, ne_Law, pd_41, q_1367, q_1368⟩
theorem K_Law_280 : LV "FlatPlanLaw" 280 (RC 11) M_Mo_spreadsOf 1 := ⟨LB_Mo_spreadsOf, q_1930, q_1931, q_1932⟩
theorem K_Law_281 : LV "FlatPlanLaw" 281 (RC 10) M_FP_revenue 0 := ⟨LB_FP_revenue, q_880, q_881, q_882⟩
theorem K_Law_284 : LV "FlatPlanLaw" 284 (RC 11) M_Mo_revenue 0 := ⟨LB_Mo_revenue, q_1934, q_1935, q_1936⟩
theorem K_Law_285 : LH "FlatPlanLaw" 285 M_Law_revenueOf 3 := ⟨q_0, q_1376, ne_Law, pd_41, q_1374, q_1375⟩
theorem K_Law_287 : LV "FlatPlanLaw" 287 (RC 11) M_Mo_revenueOf 1 := ⟨LB_Mo_revenueOf, q_1942, q_1943, q_1944⟩
theorem K_Law_288 : LH "FlatPlanLaw" 288 M_Law_revenueOfGroup 3 := ⟨q_0, q_1383, ne_Law, pd_41, q_1381, q_1382⟩
theorem K_Law_290 : LV "FlatPlanLaw" 290 (RC 11) M_Mo_revenueOfGroup 1 := ⟨LB_Mo_revenueOfGroup, q_1946, q_1947, q_1948⟩
theorem K_Law_291 : LV "FlatPlanLaw" 291 (RC 10) M_FP_lost 0 := ⟨LB_FP_lost, q_884, q_885, q_886⟩
theorem K_Law_294 : LV "FlatPlanLaw" 294 (RC 11) M_Mo_lost 0 := ⟨LB_Mo_lost, q_1845, q_1846, q_1847⟩
theorem K_Law_295 : LV "FlatPlanLaw" 295 (RC 10) M_FP_endangered 0 := ⟨LB_FP_endangered, q_888, q_889, q_890⟩
theorem K_Law_298 : LV "FlatPlanLaw" 298 (RC 11) M_Mo_endangered 0 := ⟨LB_Mo_endangered, q_1849, q_1850, q_1851⟩
theorem K_Law_299 : LV "FlatPlanLaw" 299 (RC 10) M_FP_lateItem 1 := ⟨LB_FP_lateItem, q_817, q_818, q_819⟩
theorem K_Law_302 : LV "FlatPlanLaw" 302 (RC 11) M_Mo_lateItem 1 := ⟨LB_Mo_lateItem, q_1950, q_1951, q_1952⟩
theorem K_Law_303 : LV "FlatPlanLaw" 303 (RC 10) M_FP_lastReady 0 := ⟨LB_FP_lastReady, q_860, q_861, q_862⟩
theorem K_Law_306 : LV "FlatPlanLaw" 306 (RC 11) M_Mo_lastReady 0 := ⟨LB_Mo_lastReady, q_1970, q_1971, q_1972⟩
theorem K_Law_307 : LV "FlatPlanLaw" 307 (RC 10) M_FP_betterExchange 0 := ⟨LB_FP_betterExchange, q_782, q_783, q_784⟩
theorem K_Law_310 : LV "FlatPlanLaw" 310 (RC 11) M_Mo_betterExchange 0 := ⟨LB_Mo_betterExchange, q_1974, q_1975, q_1976⟩
theorem K_Law_311 : LH "FlatPlanLaw" 311 M_Law_emptyRun 3 := ⟨q_0, q_1390, ne_Law, pd_41, q_1388, q_1389⟩
theorem K_Law_313 : LV "FlatPlanLaw" 313 (RC 11) M_Mo_emptyRun 1 := ⟨LB_Mo_emptyRun, q_1982, q_1983, q_1984⟩
theorem K_Law_314 : LV "FlatPlanLaw" 314 (RC 10) M_FP_emptiest 1 := ⟨LB_FP_emptiest, q_868, q_869, q_870⟩
theorem K_Law_317 : LV "FlatPlanLaw" 317 (RC 11) M_Mo_emptiest 1 := ⟨LB_Mo_emptiest, q_1987, q_1988, q_1989⟩
theorem K_Law_318 : LV "FlatPlanLaw" 318 (RC 10) M_FP_fill 0 := ⟨LB_FP_fill, q_893, q_894, q_895⟩
theorem K_Law_321 : LV "FlatPlanLaw" 321 (RC 11) M_Mo_fill 0 := ⟨LB_Mo_fill, q_1991, q_1992, q_1993⟩
theorem K_Law_322 : LH "FlatPlanLaw" 322 M_Law_quarterPrice 2 := ⟨q_0, q_1398, ne_Law, pd_43, q_1396, q_1397⟩
theorem K_Law_325 : LV "FlatPlanLaw" 325 (RC 11) M_Mo_quarterPrice 0 := ⟨LB_Mo_quarterPrice, q_1995, q_1996, q_1997⟩
theorem K_Law_326 : LH "FlatPlanLaw" 326 M_Law_describe 3 := ⟨q_0, q_1423, ne_Law, pd_41, q_1421, q_1422⟩
theorem K_Law_328 : LV "FlatPlanLaw" 328 (RC 11) M_Mo_describe 1 := ⟨LB_Mo_describe, q_1999, q_2000, q_2001⟩
theorem K_Law_329 : LV "FlatPlanLaw" 329 (RC 10) M_FP_describedByte 1 := ⟨LB_FP_describedByte, q_897, q_898, q_899⟩
theorem K_Law_332 : LV "FlatPlanLaw" 332 (RC 11) M_Mo_describedByte 1 := ⟨LB_Mo_describedByte, q_2011, q_2012, q_2013⟩
theorem K_Law_333 : LV "FlatPlanLaw" 333 (RC 10) M_FP_digest 0 := ⟨LB_FP_digest, q_902, q_903, q_904⟩
theorem K_Law_336 : LV "FlatPlanLaw" 336 (RC 11) M_Mo_digest 0 := ⟨LB_Mo_digest, q_2015, q_2016, q_2017⟩
theorem K_Law_337 : LV "FlatPlanLaw" 337 (RC 10) M_FP_undo 0 := ⟨LB_FP_undo, q_906, q_907, q_908⟩
theorem K_Law_341 : LV "FlatPlanLaw" 341 (RC 11) M_Mo_undo 0 := ⟨LB_Mo_undo, q_1514, q_1515, q_1516⟩
theorem K_Law_342 : LV "FlatPlanLaw" 342 (RC 10) M_FP_undoCount 0 := ⟨LB_FP_undoCount, q_915, q_916, q_917⟩
theorem K_Law_345 : LV "FlatPlanLaw" 345 (RC 11) M_Mo_undoCount 0 := ⟨LB_Mo_undoCount, q_1522, q_1523, q_1524⟩
theorem TH_FP_148_150 : TH "FlatPlan" 148 150 152 "java/lang/IllegalArgumentException" "no such ad can be added" := ⟨by decide +kernel, q_931, q_23, List.mem_of_getElem? (i := 0) rfl, by decide +kernel, by decide +kernel, by decide +kernel⟩
theorem TH_FP_148_165 : TH "FlatPlan" 148 165 152 "java/lang/IllegalArgumentException" "a side is 0 to 2" := ⟨by decide +kernel, q_931, q_23, List.mem_of_getElem? (i := 2) rfl, by decide +kernel, by decide +kernel, by decide +kernel⟩
theorem TH_FP_363_365 : TH "FlatPlan" 363 365 367 "java/lang/IndexOutOfBoundsException" "no such ad" := ⟨by decide +kernel, q_1035, q_24, List.mem_of_getElem? (i := 1) rfl, by decide +kernel, by decide +kernel, by decide +kernel⟩
theorem TH_FP_148_171 : TH "FlatPlan" 148 171 152 "java/lang/IllegalArgumentException" "a price is 1 to 999" := ⟨by decide +kernel, q_931, q_23, List.mem_of_getElem? (i := 3) rfl, by decide +kernel, by decide +kernel, by decide +kernel⟩
theorem TH_FP_363_368 : TH "FlatPlan" 363 368 367 "java/lang/IndexOutOfBoundsException" "no such story" := ⟨by decide +kernel, q_1035, q_24, List.mem_of_getElem? (i := 4) rfl, by decide +kernel, by decide +kernel, by decide +kernel⟩
theorem TH_FP_363_370 : TH "FlatPlan" 363 370 367 "java/lang/IndexOutOfBoundsException" "no such standby" := ⟨by decide +kernel, q_1035, q_24, List.mem_of_getElem? (i := 5) rfl, by decide +kernel, by decide +kernel, by decide +kernel⟩
theorem TH_FP_363_375 : TH "FlatPlan" 363 375 367 "java/lang/IndexOutOfBoundsException" "no such page" := ⟨by decide +kernel, q_1035, q_24, List.mem_of_getElem? (i := 6) rfl, by decide +kernel, by decide +kernel, by decide +kernel⟩
theorem TH_FP_363_377 : TH "FlatPlan" 363 377 367 "java/lang/IndexOutOfBoundsException" "no such form" := ⟨by decide +kernel, q_1035, q_24, List.mem_of_getElem? (i := 7) rfl, by decide +kernel, by decide +kernel, by decide +kernel⟩
theorem TH_FP_148_270 : TH "FlatPlan" 148 270 152 "java/lang/IllegalArgumentException" "a closing time is 1 to 9999" := ⟨by decide +kernel, q_931, q_23, List.mem_of_getElem? (i := 8) rfl, by decide +kernel, by decide +kernel, by decide +kernel⟩
theorem TH_FP_148_275 : TH "FlatPlan" 148 275 152 "java/lang/IllegalArgumentException" "1 to 500 hours can pass" := ⟨by decide +kernel, q_931, q_23, List.mem_of_getElem? (i := 9) rfl, by decide +kernel, by decide +kernel, by decide +kernel⟩
theorem TH_FP_148_304 : TH "FlatPlan" 148 304 152 "java/lang/IllegalArgumentException" "1 to 8 forms can be asked for" := ⟨by decide +kernel, q_931, q_23, List.mem_of_getElem? (i := 10) rfl, by decide +kernel, by decide +kernel, by decide +kernel⟩
theorem TH_FP_148_332 : TH "FlatPlan" 148 332 152 "java/lang/IllegalArgumentException" "no such spread" := ⟨by decide +kernel, q_931, q_23, List.mem_of_getElem? (i := 12) rfl, by decide +kernel, by decide +kernel, by decide +kernel⟩
theorem TH_FP_148_379 : TH "FlatPlan" 148 379 152 "java/lang/IllegalArgumentException" "a group is 0 to 9" := ⟨by decide +kernel, q_931, q_23, List.mem_of_getElem? (i := 11) rfl, by decide +kernel, by decide +kernel, by decide +kernel⟩
theorem TH_FP_148_318 : TH "FlatPlan" 148 318 152 "java/lang/IllegalArgumentException" "a run has 1 to 64 pages" := ⟨by decide +kernel, q_931, q_23, List.mem_of_getElem? (i := 13) rfl, by decide +kernel, by decide +kernel, by decide +kernel⟩
theorem TH_FP_343_345 : TH "FlatPlan" 343 345 347 "java/lang/ArithmeticException" "no ad is placed" := ⟨by decide +kernel, q_1417, q_27, List.mem_of_getElem? (i := 14) rfl, by decide +kernel, by decide +kernel, by decide +kernel⟩
theorem hw_0_0 {X : XT} {a : Nat} (h : HC X 0 a) : HA X 0 40 (tgt a 0) := h.goA (List.mem_of_getElem? (i := 0) rfl) (wt_0_0 h.is)
theorem hw_0_1 {X : XT} {a : Nat} (h : HC X 0 a) : HA X 0 40 (tgt a 1) := h.goA (List.mem_of_getElem? (i := 1) rfl) (wt_0_1 h.is)
theorem hw_0_2 {X : XT} {a : Nat} (h : HC X 0 a) : HA X 0 40 (tgt a 2) := h.goA (List.mem_of_getElem? (i := 2) rfl) (wt_0_2 h.is)
theorem hw_0_3 {X : XT} {a : Nat} (h : HC X 0 a) : HA X 0 40 (tgt a 3) := h.goA (List.mem_of_getElem? (i := 3) rfl) (wt_0_3 h.is)
theorem hw_0_4 {X : XT} {a : Nat} (h : HC X 0 a) : HA X 0 40 (tgt a 4) := h.goA (List.mem_of_getElem? (i := 4) rfl) (wt_0_4 h.is)
theorem hw_0_5 {X : XT} {a : Nat} (h : HC X 0 a) : HA X 0 40 (tgt a 5) := h.goA (List.mem_of_getElem? (i := 5) rfl) (wt_0_5 h.is)
theorem hw_0_6 {X : XT} {a : Nat} (h : HC X 0 a) : HA X 0 40 (tgt a 6) := h.goA (List.mem_of_getElem? (i := 6) rfl) (wt_0_6 h.is)
theorem hw_1_0 {X : XT} {a : Nat} (h : HC X 1 a) : HA X 0 (ln (tgt a 0)) (tgt a 0) := h.goA (List.mem_of_getElem? (i := 7) rfl) (wt_1_0 h.is)
theorem hw_2_0 {X : XT} {a : Nat} (h : HC X 2 a) : HA X 0 8 (tgt a 0) := h.goA (List.mem_of_getElem? (i := 8) rfl) (wt_2_0 h.is)
theorem hw_2_1 {X : XT} {a : Nat} (h : HC X 2 a) : HA X 0 8 (tgt a 1) := h.goA (List.mem_of_getElem? (i := 9) rfl) (wt_2_1 h.is)
theorem hw_2_2 {X : XT} {a : Nat} (h : HC X 2 a) : HA X 0 8 (tgt a 2) := h.goA (List.mem_of_getElem? (i := 10) rfl) (wt_2_2 h.is)
theorem hw_3_0 {X : XT} {a : Nat} (h : HC X 3 a) : HA X 5 20 (tgt a 0) := h.goA (List.mem_of_getElem? (i := 11) rfl) (wt_3_0 h.is)
theorem hw_4_0 {X : XT} {a : Nat} (h : HC X 4 a) : HC X 8 (tgt a 0) := h.go (List.mem_of_getElem? (i := 12) rfl) (wt_4_0 h.is)
theorem hw_4_3 {X : XT} {a : Nat} (h : HC X 4 a) : HA X 0 65 (tgt a 3) := h.goA (List.mem_of_getElem? (i := 13) rfl) (wt_4_3 h.is)
theorem hw_4_4 {X : XT} {a : Nat} (h : HC X 4 a) : HA X 0 65 (tgt a 4) := h.goA (List.mem_of_getElem? (i := 14) rfl) (wt_4_4 h.is)
theorem hw_4_5 {X : XT} {a : Nat} (h : HC X 4 a) : HA X 0 65 (tgt a 5) := h.goA (List.mem_of_getElem? (i := 15) rfl) (wt_4_5 h.is)
theorem hw_4_6 {X : XT} {a : Nat} (h : HC X 4 a) : HA X 0 65 (tgt a 6) := h.goA (List.mem_of_getElem? (i := 16) rfl) (wt_4_6 h.is)
theorem hw_4_7 {X : XT} {a : Nat} (h : HC X 4 a) : HA X 0 330 (tgt a 7) := h.goA (List.mem_of_getElem? (i := 17) rfl) (wt_4_7 h.is)
theorem hw_5_0 {X : XT} {a : Nat} (h : HC X 5 a) : HC X 1 (tgt a 0) := h.go (List.mem_of_getElem? (i := 18) rfl) (wt_5_0 h.is)
theorem hw_5_1 {X : XT} {a : Nat} (h : HC X 5 a) : HC X 4 (tgt a 1) := h.go (List.mem_of_getElem? (i := 19) rfl) (wt_5_1 h.is)
theorem hw_5_2 {X : XT} {a : Nat} (h : HC X 5 a) : HA X 0 6 (tgt a 2) := h.goA (List.mem_of_getElem? (i := 20) rfl) (wt_5_2 h.is)
theorem hw_6_0 {X : XT} {a : Nat} (h : HC X 6 a) : HC X 4 (tgt a 0) := h.go (List.mem_of_getElem? (i := 21) rfl) (wt_6_0 h.is)
theorem hw_6_1 {X : XT} {a : Nat} (h : HC X 6 a) : HC X 8 (tgt a 1) := h.go (List.mem_of_getElem? (i := 22) rfl) (wt_6_1 h.is)
theorem hw_6_2 {X : XT} {a : Nat} (h : HC X 6 a) : HA X 0 40 (tgt a 2) := h.goA (List.mem_of_getElem? (i := 23) rfl) (wt_6_2 h.is)
theorem hw_6_3 {X : XT} {a : Nat} (h : HC X 6 a) : HA X 0 4 (tgt a 3) := h.goA (List.mem_of_getElem? (i := 24) rfl) (wt_6_3 h.is)
theorem hw_6_4 {X : XT} {a : Nat} (h : HC X 6 a) : HA X 0 65 (tgt a 4) := h.goA (List.mem_of_getElem? (i := 25) rfl) (wt_6_4 h.is)
theorem hw_6_5 {X : XT} {a : Nat} (h : HC X 6 a) : HA X 0 40 (tgt a 5) := h.goA (List.mem_of_getElem? (i := 26) rfl) (wt_6_5 h.is)
theorem hw_6_6 {X : XT} {a : Nat} (h : HC X 6 a) : HA X 0 65 (tgt a 6) := h.goA (List.mem_of_getElem? (i := 27) rfl) (wt_6_6 h.is)
theorem hw_6_7 {X : XT} {a : Nat} (h : HC X 6 a) : HA X 0 40 (tgt a 7) := h.goA (List.mem_of_getElem? (i := 28) rfl) (wt_6_7 h.is)
theorem hw_6_8 {X : XT} {a : Nat} (h : HC X 6 a) : HA X 0 8 (tgt a 8) := h.goA (List.mem_of_getElem? (i := 29) rfl) (wt_6_8 h.is)
theorem hw_6_9 {X : XT} {a : Nat} (h : HC X 6 a) : HA X 0 65 (tgt a 9) := h.goA (List.mem_of_getElem? (i := 30) rfl) (wt_6_9 h.is)
theorem hw_7_0 {X : XT} {a : Nat} (h : HC X 7 a) : HA X 0 8 (tgt a 0) := h.goA (List.mem_of_getElem? (i := 31) rfl) (wt_7_0 h.is)
theorem hw_7_1 {X : XT} {a : Nat} (h : HC X 7 a) : HA X 0 8 (tgt a 1) := h.goA (List.mem_of_getElem? (i := 32) rfl) (wt_7_1 h.is)
theorem hw_8_0 {X : XT} {a : Nat} (h : HC X 8 a) : HC X 0 (tgt a 0) := h.go (List.mem_of_getElem? (i := 33) rfl) (wt_8_0 h.is)
theorem hw_8_1 {X : XT} {a : Nat} (h : HC X 8 a) : HC X 9 (tgt a 1) := h.go (List.mem_of_getElem? (i := 34) rfl) (wt_8_1 h.is)
theorem hw_8_2 {X : XT} {a : Nat} (h : HC X 8 a) : HC X 7 (tgt a 2) := h.go (List.mem_of_getElem? (i := 35) rfl) (wt_8_2 h.is)
theorem hw_8_3 {X : XT} {a : Nat} (h : HC X 8 a) : HC X 2 (tgt a 3) := h.go (List.mem_of_getElem? (i := 36) rfl) (wt_8_3 h.is)
theorem hw_9_0 {X : XT} {a : Nat} (h : HC X 9 a) : HA X 0 10 (tgt a 0) := h.goA (List.mem_of_getElem? (i := 37) rfl) (wt_9_0 h.is)
theorem hw_9_1 {X : XT} {a : Nat} (h : HC X 9 a) : HA X 0 10 (tgt a 1) := h.goA (List.mem_of_getElem? (i := 38) rfl) (wt_9_1 h.is)
theorem hw_9_2 {X : XT} {a : Nat} (h : HC X 9 a) : HA X 0 10 (tgt a 2) := h.goA (List.mem_of_getElem? (i := 39) rfl) (wt_9_2 h.is)
theorem hw_9_3 {X : XT} {a : Nat} (h : HC X 9 a) : HA X 0 10 (tgt a 3) := h.goA (List.mem_of_getElem? (i := 40) rfl) (wt_9_3 h.is)
theorem hw_9_4 {X : XT} {a : Nat} (h : HC X 9 a) : HA X 0 10 (tgt a 4) := h.goA (List.mem_of_getElem? (i := 41) rfl) (wt_9_4 h.is)
theorem hw_10_0 {X : XT} {a : Nat} (h : HC X 10 a) : HC X 5 (tgt a 0) := h.go (List.mem_of_getElem? (i := 42) rfl) (wt_10_0 h.is)
theorem hw_10_1 {X : XT} {a : Nat} (h : HC X 10 a) : HC X 1 (tgt a 1) := h.go (List.mem_of_getElem? (i := 43) rfl) (wt_10_1 h.is)
theorem hw_10_2 {X : XT} {a : Nat} (h : HC X 10 a) : HC X 6 (tgt a 2) := h.go (List.mem_of_getElem? (i := 44) rfl) (wt_10_2 h.is)
theorem hw_10_3 {X : XT} {a : Nat} (h : HC X 10 a) : HC X 4 (tgt a 3) := h.go (List.mem_of_getElem? (i := 45) rfl) (wt_10_3 h.is)
theorem hw_10_4 {X : XT} {a : Nat} (h : HC X 10 a) : HC X 3 (tgt a 4) := h.go (List.mem_of_getElem? (i := 46) rfl) (wt_10_4 h.is)
theorem hw_10_5 {X : XT} {a : Nat} (h : HC X 10 a) : HC X 1 (tgt a 5) := h.go (List.mem_of_getElem? (i := 47) rfl) (wt_10_5 h.is)
theorem hw_11_0 {X : XT} {a : Nat} (h : HC X 11 a) : HA X 0 8740 (tgt a 0) := h.goA (List.mem_of_getElem? (i := 48) rfl) (wt_11_0 h.is)
theorem hw_11_5 {X : XT} {a : Nat} (h : HC X 11 a) : HA X 2 40 (tgt a 5) := h.goA (List.mem_of_getElem? (i := 49) rfl) (wt_11_5 h.is)
theorem hw_11_6 {X : XT} {a : Nat} (h : HC X 11 a) : HA X 0 4 (tgt a 6) := h.goA (List.mem_of_getElem? (i := 50) rfl) (wt_11_6 h.is)
theorem hw_11_7 {X : XT} {a : Nat} (h : HC X 11 a) : HA X 0 65 (tgt a 7) := h.goA (List.mem_of_getElem? (i := 51) rfl) (wt_11_7 h.is)
theorem hw_11_8 {X : XT} {a : Nat} (h : HC X 11 a) : HA X 0 65 (tgt a 8) := h.goA (List.mem_of_getElem? (i := 52) rfl) (wt_11_8 h.is)
theorem hw_11_9 {X : XT} {a : Nat} (h : HC X 11 a) : HA X 0 65 (tgt a 9) := h.goA (List.mem_of_getElem? (i := 53) rfl) (wt_11_9 h.is)
theorem hw_11_10 {X : XT} {a : Nat} (h : HC X 11 a) : HA X 2 2600 (tgt a 10) := h.goA (List.mem_of_getElem? (i := 54) rfl) (wt_11_10 h.is)
theorem hw_11_11 {X : XT} {a : Nat} (h : HC X 11 a) : HA X 0 60 (tgt a 11) := h.goA (List.mem_of_getElem? (i := 55) rfl) (wt_11_11 h.is)
theorem hw_11_13 {X : XT} {a : Nat} (h : HC X 11 a) : HA X 1 1600 (tgt a 13) := h.goA (List.mem_of_getElem? (i := 56) rfl) (wt_11_13 h.is)
theorem lnAll : ∀ a, a < nCell → Nat.ble (ln a) 99999 = true := by decide +kernel
