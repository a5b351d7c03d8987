/-! LINKS: what the calls, the fields and the throws of the code lead to -/
theorem ne_FP : "FlatPlan" ≠ "java/lang/invoke/MethodHandle" ∧ "FlatPlan" ≠ "java/lang/invoke/VarHandle" := by decide
theorem pn_FP : plainName "FlatPlan" = true := by decide +kernel
theorem ne_Ads : "FlatPlan$Ads" ≠ "java/lang/invoke/MethodHandle" ∧ "FlatPlan$Ads" ≠ "java/lang/invoke/VarHandle" := by decide
theorem pn_Ads : plainName "FlatPlan$Ads" = true := by decide +kernel
theorem ne_Bytes : "FlatPlan$Bytes" ≠ "java/lang/invoke/MethodHandle" ∧ "FlatPlan$Bytes" ≠ "java/lang/invoke/VarHandle" := by decide
theorem pn_Bytes : plainName "FlatPlan$Bytes" = true := by decide +kernel
theorem ne_Forms : "FlatPlan$Forms" ≠ "java/lang/invoke/MethodHandle" ∧ "FlatPlan$Forms" ≠ "java/lang/invoke/VarHandle" := by decide
theorem pn_Forms : plainName "FlatPlan$Forms" = true := by decide +kernel
theorem ne_History : "FlatPlan$History" ≠ "java/lang/invoke/MethodHandle" ∧ "FlatPlan$History" ≠ "java/lang/invoke/VarHandle" := by decide
theorem pn_History : plainName "FlatPlan$History" = true := by decide +kernel
theorem ne_Plan : "FlatPlan$Plan" ≠ "java/lang/invoke/MethodHandle" ∧ "FlatPlan$Plan" ≠ "java/lang/invoke/VarHandle" := by decide
theorem pn_Plan : plainName "FlatPlan$Plan" = true := by decide +kernel
theorem ne_Reader : "FlatPlan$Reader" ≠ "java/lang/invoke/MethodHandle" ∧ "FlatPlan$Reader" ≠ "java/lang/invoke/VarHandle" := by decide
theorem pn_Reader : plainName "FlatPlan$Reader" = true := by decide +kernel
theorem ne_Searches : "FlatPlan$Searches" ≠ "java/lang/invoke/MethodHandle" ∧ "FlatPlan$Searches" ≠ "java/lang/invoke/VarHandle" := by decide
theorem pn_Searches : plainName "FlatPlan$Searches" = true := by decide +kernel
theorem ne_Standbys : "FlatPlan$Standbys" ≠ "java/lang/invoke/MethodHandle" ∧ "FlatPlan$Standbys" ≠ "java/lang/invoke/VarHandle" := by decide
theorem pn_Standbys : plainName "FlatPlan$Standbys" = true := by decide +kernel
theorem ne_State : "FlatPlan$State" ≠ "java/lang/invoke/MethodHandle" ∧ "FlatPlan$State" ≠ "java/lang/invoke/VarHandle" := by decide
theorem pn_State : plainName "FlatPlan$State" = true := by decide +kernel
theorem ne_Stories : "FlatPlan$Stories" ≠ "java/lang/invoke/MethodHandle" ∧ "FlatPlan$Stories" ≠ "java/lang/invoke/VarHandle" := by decide
theorem pn_Stories : plainName "FlatPlan$Stories" = true := by decide +kernel
theorem ne_Law : "FlatPlanLaw" ≠ "java/lang/invoke/MethodHandle" ∧ "FlatPlanLaw" ≠ "java/lang/invoke/VarHandle" := by decide
theorem pn_Law : plainName "FlatPlanLaw" = true := by decide +kernel
theorem ne_Integer : "java/lang/Integer" ≠ "java/lang/invoke/MethodHandle" ∧ "java/lang/Integer" ≠ "java/lang/invoke/VarHandle" := by decide
theorem pn_Integer : plainName "java/lang/Integer" = true := by decide +kernel
theorem ne_Math : "java/lang/Math" ≠ "java/lang/invoke/MethodHandle" ∧ "java/lang/Math" ≠ "java/lang/invoke/VarHandle" := by decide
theorem ne_Object : "java/lang/Object" ≠ "java/lang/invoke/MethodHandle" ∧ "java/lang/Object" ≠ "java/lang/invoke/VarHandle" := by decide
theorem ne_String : "java/lang/String" ≠ "java/lang/invoke/MethodHandle" ∧ "java/lang/String" ≠ "java/lang/invoke/VarHandle" := by decide
theorem pn_String : plainName "java/lang/String" = true := by decide +kernel
theorem ne_StringLatin1 : "java/lang/StringLatin1" ≠ "java/lang/invoke/MethodHandle" ∧ "java/lang/StringLatin1" ≠ "java/lang/invoke/VarHandle" := by decide
theorem pn_StringLatin1 : plainName "java/lang/StringLatin1" = true := by decide +kernel
theorem ne_Arrays : "java/util/Arrays" ≠ "java/lang/invoke/MethodHandle" ∧ "java/util/Arrays" ≠ "java/lang/invoke/VarHandle" := by decide
theorem pn_Arrays : plainName "java/util/Arrays" = true := by decide +kernel
theorem ne_Preconditions : "jdk/internal/util/Preconditions" ≠ "java/lang/invoke/MethodHandle" ∧ "jdk/internal/util/Preconditions" ≠ "java/lang/invoke/VarHandle" := by decide
theorem pn_Preconditions : plainName "jdk/internal/util/Preconditions" = true := by decide +kernel
theorem pd_0 : (parseMethodDescriptor "()V").map (fun d => d.parameters.length) = some 0 := by decide +kernel
theorem pd_1 : (parseMethodDescriptor "(I)V").map (fun d => d.parameters.length) = some 1 := by decide +kernel
theorem pd_2 : (parseMethodDescriptor "(II)V").map (fun d => d.parameters.length) = some 2 := by decide +kernel
theorem pd_3 : (parseMethodDescriptor "([II)V").map (fun d => d.parameters.length) = some 2 := by decide +kernel
theorem pd_4 : (parseMethodDescriptor "(I)Z").map (fun d => d.parameters.length) = some 1 := by decide +kernel
theorem pd_5 : (parseMethodDescriptor "()I").map (fun d => d.parameters.length) = some 0 := by decide +kernel
theorem pd_6 : (parseMethodDescriptor "(LFlatPlan$State;)V").map (fun d => d.parameters.length) = some 1 := by decide +kernel
theorem pd_7 : (parseMethodDescriptor "(Ljava/lang/String;)Z").map (fun d => d.parameters.length) = some 1 := by decide +kernel
theorem pd_8 : (parseMethodDescriptor "()Z").map (fun d => d.parameters.length) = some 0 := by decide +kernel
theorem pd_9 : (parseMethodDescriptor "(I)I").map (fun d => d.parameters.length) = some 1 := by decide +kernel
theorem pd_10 : (parseMethodDescriptor "(I)C").map (fun d => d.parameters.length) = some 1 := by decide +kernel
theorem pd_11 : (parseMethodDescriptor "(III)Z").map (fun d => d.parameters.length) = some 3 := by decide +kernel
theorem pd_12 : (parseMethodDescriptor "(IIII)I").map (fun d => d.parameters.length) = some 4 := by decide +kernel
theorem pd_13 : (parseMethodDescriptor "(IIII)V").map (fun d => d.parameters.length) = some 4 := by decide +kernel
theorem pd_14 : (parseMethodDescriptor "(II)I").map (fun d => d.parameters.length) = some 2 := by decide +kernel
theorem pd_15 : (parseMethodDescriptor "(II)Z").map (fun d => d.parameters.length) = some 2 := by decide +kernel
theorem pd_16 : (parseMethodDescriptor "(LFlatPlan$Ads;)V").map (fun d => d.parameters.length) = some 1 := by decide +kernel
theorem pd_17 : (parseMethodDescriptor "(LFlatPlan$Stories;)V").map (fun d => d.parameters.length) = some 1 := by decide +kernel
theorem pd_18 : (parseMethodDescriptor "(LFlatPlan$Standbys;)V").map (fun d => d.parameters.length) = some 1 := by decide +kernel
theorem pd_19 : (parseMethodDescriptor "(LFlatPlan$Forms;)V").map (fun d => d.parameters.length) = some 1 := by decide +kernel
theorem pd_20 : (parseMethodDescriptor "(LFlatPlan$Plan;)Z").map (fun d => d.parameters.length) = some 1 := by decide +kernel
theorem pd_21 : (parseMethodDescriptor "([II)I").map (fun d => d.parameters.length) = some 2 := by decide +kernel
theorem pd_22 : (parseMethodDescriptor "([III)I").map (fun d => d.parameters.length) = some 3 := by decide +kernel
theorem pd_23 : (parseMethodDescriptor "()D").map (fun d => d.parameters.length) = some 0 := by decide +kernel
theorem pd_24 : (parseMethodDescriptor "(CI)V").map (fun d => d.parameters.length) = some 2 := by decide +kernel
theorem pd_25 : (parseMethodDescriptor "(III)I").map (fun d => d.parameters.length) = some 3 := by decide +kernel
theorem pd_26 : (parseMethodDescriptor "()B").map (fun d => d.parameters.length) = some 0 := by decide +kernel
theorem pd_27 : (parseMethodDescriptor "([BI)C").map (fun d => d.parameters.length) = some 2 := by decide +kernel
theorem pd_28 : (parseMethodDescriptor "(IILjava/util/function/BiFunction;)I").map (fun d => d.parameters.length) = some 3 := by decide +kernel
theorem LB_Reader_init : LB M_Reader_init 0 := ⟨q_2, q_51, ne_Reader, pd_0⟩
theorem LB_Searches_init : LB M_Searches_init 0 := ⟨q_12, q_375, ne_Searches, pd_0⟩
theorem LB_History_init : LB M_History_init 0 := ⟨q_13, q_415, ne_History, pd_0⟩
theorem LB_Bytes_init : LB M_Bytes_init 1 := ⟨q_3, q_57, ne_Bytes, pd_1⟩
theorem LB_Plan_init : LB M_Plan_init 0 := ⟨q_4, q_73, ne_Plan, pd_0⟩
theorem LB_State_init : LB M_State_init 0 := ⟨q_5, q_79, ne_State, pd_0⟩
theorem LB_Plan_begin : LB M_Plan_begin 2 := ⟨q_4, q_282, ne_Plan, pd_2⟩
theorem LB_Ads_init : LB M_Ads_init 0 := ⟨q_6, q_85, ne_Ads, pd_0⟩
theorem LB_Stories_init : LB M_Stories_init 0 := ⟨q_7, q_142, ne_Stories, pd_0⟩
theorem LB_Standbys_init : LB M_Standbys_init 0 := ⟨q_8, q_186, ne_Standbys, pd_0⟩
theorem LB_Forms_init : LB M_Forms_init 0 := ⟨q_9, q_209, ne_Forms, pd_0⟩
theorem LB_Arrays_fill : LB M_Arrays_fill 2 := ⟨q_10, q_285, ne_Arrays, pd_3⟩
theorem LB_Plan_layOut : LB M_Plan_layOut 0 := ⟨q_4, q_289, ne_Plan, pd_0⟩
theorem LB_Plan_recount : LB M_Plan_recount 0 := ⟨q_4, q_296, ne_Plan, pd_0⟩
theorem LB_Plan_hasPage : LB M_Plan_hasPage 1 := ⟨q_4, q_300, ne_Plan, pd_4⟩
theorem LB_Reader_readText : LB M_Reader_readText 0 := ⟨q_2, q_459, ne_Reader, pd_5⟩
theorem LB_Plan_become : LB M_Plan_become 1 := ⟨q_4, q_644, ne_Plan, pd_6⟩
theorem LB_History_forget : LB M_History_forget 0 := ⟨q_13, q_674, ne_History, pd_0⟩
theorem LB_Reader_nextToken : LB M_Reader_nextToken 0 := ⟨q_2, q_464, ne_Reader, pd_0⟩
theorem LB_Reader_isWord : LB M_Reader_isWord 1 := ⟨q_2, q_479, ne_Reader, pd_7⟩
theorem LB_Reader_readPlan : LB M_Reader_readPlan 0 := ⟨q_2, q_531, ne_Reader, pd_8⟩
theorem LB_Reader_readStatement : LB M_Reader_readStatement 0 := ⟨q_2, q_551, ne_Reader, pd_8⟩
theorem LB_Bytes_byteAt : LB M_Bytes_byteAt 1 := ⟨q_3, q_468, ne_Bytes, pd_9⟩
theorem LB_Reader_isLetter : LB M_Reader_isLetter 1 := ⟨q_2, q_471, ne_Reader, pd_4⟩
theorem LB_Reader_isDigit : LB M_Reader_isDigit 1 := ⟨q_2, q_474, ne_Reader, pd_4⟩
theorem LB_String_length : LB M_String_length 0 := ⟨q_25, q_483, ne_String, pd_5⟩
theorem LB_String_charAt : LB M_String_charAt 1 := ⟨q_25, q_493, ne_String, pd_10⟩
theorem LB_Reader_readNumber : LB M_Reader_readNumber 3 := ⟨q_2, q_535, ne_Reader, pd_11⟩
theorem LB_Reader_fail : LB M_Reader_fail 1 := ⟨q_2, q_539, ne_Reader, pd_4⟩
theorem LB_Reader_readSemicolon : LB M_Reader_readSemicolon 0 := ⟨q_2, q_547, ne_Reader, pd_8⟩
theorem LB_Reader_numberRead : LB M_Reader_numberRead 0 := ⟨q_2, q_543, ne_Reader, pd_5⟩
theorem LB_Reader_readColor : LB M_Reader_readColor 0 := ⟨q_2, q_556, ne_Reader, pd_8⟩
theorem LB_Reader_readAd : LB M_Reader_readAd 0 := ⟨q_2, q_561, ne_Reader, pd_8⟩
theorem LB_Reader_readStory : LB M_Reader_readStory 0 := ⟨q_2, q_577, ne_Reader, pd_8⟩
theorem LB_Reader_readStandby : LB M_Reader_readStandby 0 := ⟨q_2, q_586, ne_Reader, pd_8⟩
theorem LB_Reader_readClose : LB M_Reader_readClose 0 := ⟨q_2, q_595, ne_Reader, pd_8⟩
theorem LB_Reader_readPut : LB M_Reader_readPut 0 := ⟨q_2, q_600, ne_Reader, pd_8⟩
theorem LB_Reader_readLay : LB M_Reader_readLay 0 := ⟨q_2, q_629, ne_Reader, pd_8⟩
theorem LB_Reader_firstIsSize : LB M_Reader_firstIsSize 0 := ⟨q_2, q_565, ne_Reader, pd_8⟩
theorem LB_Ads_add : LB M_Ads_add 4 := ⟨q_6, q_572, ne_Ads, pd_12⟩
theorem LB_FP_isSize : LB M_FP_isSize 1 := ⟨q_1, q_568, ne_FP, pd_4⟩
theorem LB_Stories_add : LB M_Stories_add 4 := ⟨q_7, q_581, ne_Stories, pd_13⟩
theorem LB_Standbys_add : LB M_Standbys_add 1 := ⟨q_8, q_590, ne_Standbys, pd_1⟩
theorem LB_Plan_adReason : LB M_Plan_adReason 2 := ⟨q_4, q_604, ne_Plan, pd_14⟩
theorem LB_Plan_isPrinted : LB M_Plan_isPrinted 1 := ⟨q_4, q_608, ne_Plan, pd_4⟩
theorem LB_Plan_roomFor : LB M_Plan_roomFor 2 := ⟨q_4, q_612, ne_Plan, pd_14⟩
theorem LB_Plan_lacksColor : LB M_Plan_lacksColor 2 := ⟨q_4, q_616, ne_Plan, pd_15⟩
theorem LB_Plan_isWrongSide : LB M_Plan_isWrongSide 2 := ⟨q_4, q_619, ne_Plan, pd_15⟩
theorem LB_Plan_meetsRival : LB M_Plan_meetsRival 2 := ⟨q_4, q_623, ne_Plan, pd_15⟩
theorem LB_Plan_layReason : LB M_Plan_layReason 2 := ⟨q_4, q_633, ne_Plan, pd_14⟩
theorem LB_Plan_pageReason : LB M_Plan_pageReason 2 := ⟨q_4, q_637, ne_Plan, pd_14⟩
theorem LB_Plan_lowerReason : LB M_Plan_lowerReason 2 := ⟨q_4, q_640, ne_Plan, pd_14⟩
theorem LB_State_copyFrom : LB M_State_copyFrom 1 := ⟨q_5, q_648, ne_State, pd_6⟩
theorem LB_Ads_copyFrom : LB M_Ads_copyFrom 1 := ⟨q_6, q_652, ne_Ads, pd_16⟩
theorem LB_Stories_copyFrom : LB M_Stories_copyFrom 1 := ⟨q_7, q_659, ne_Stories, pd_17⟩
theorem LB_Standbys_copyFrom : LB M_Standbys_copyFrom 1 := ⟨q_8, q_664, ne_Standbys, pd_18⟩
theorem LB_Forms_copyFrom : LB M_Forms_copyFrom 1 := ⟨q_9, q_669, ne_Forms, pd_19⟩
theorem LB_Searches_tightestAd : LB M_Searches_tightestAd 0 := ⟨q_12, q_691, ne_Searches, pd_5⟩
theorem LB_Searches_pagesFor : LB M_Searches_pagesFor 1 := ⟨q_12, q_695, ne_Searches, pd_9⟩
theorem LB_Searches_matchedAds : LB M_Searches_matchedAds 0 := ⟨q_12, q_704, ne_Searches, pd_5⟩
theorem LB_Searches_matchOneMore : LB M_Searches_matchOneMore 1 := ⟨q_12, q_709, ne_Searches, pd_4⟩
theorem LB_Searches_mayMatch : LB M_Searches_mayMatch 2 := ⟨q_12, q_713, ne_Searches, pd_15⟩
theorem LB_Searches_changePartners : LB M_Searches_changePartners 1 := ⟨q_12, q_717, ne_Searches, pd_1⟩
theorem LB_History_bringBack : LB M_History_bringBack 1 := ⟨q_13, q_730, ne_History, pd_20⟩
theorem LB_Bytes_addWord : LB M_Bytes_addWord 1 := ⟨q_3, q_1005, ne_Bytes, pd_1⟩
theorem LB_Bytes_addByte : LB M_Bytes_addByte 1 := ⟨q_3, q_1009, ne_Bytes, pd_1⟩
theorem LB_FP_needAd : LB M_FP_needAd 1 := ⟨q_1, q_1044, ne_FP, pd_1⟩
theorem LB_FP_orNone : LB M_FP_orNone 1 := ⟨q_1, q_1115, ne_FP, pd_9⟩
theorem LB_Plan_isLate : LB M_Plan_isLate 1 := ⟨q_4, q_1119, ne_Plan, pd_4⟩
theorem LB_FP_needStory : LB M_FP_needStory 1 := ⟨q_1, q_1127, ne_FP, pd_1⟩
theorem LB_FP_needStandby : LB M_FP_needStandby 1 := ⟨q_1, q_1136, ne_FP, pd_1⟩
theorem LB_FP_placed : LB M_FP_placed 2 := ⟨q_1, q_1144, ne_FP, pd_21⟩
theorem LB_FP_page : LB M_FP_page 2 := ⟨q_1, q_1188, ne_FP, pd_14⟩
theorem LB_FP_needPage : LB M_FP_needPage 1 := ⟨q_1, q_1192, ne_FP, pd_1⟩
theorem LB_FP_standing : LB M_FP_standing 3 := ⟨q_1, q_1197, ne_FP, pd_22⟩
theorem LB_FP_quarterPrice : LB M_FP_quarterPrice 0 := ⟨q_1, q_1218, ne_FP, pd_23⟩
theorem LB_FP_revenue : LB M_FP_revenue 0 := ⟨q_1, q_1152, ne_FP, pd_5⟩
theorem LB_Bytes_addItem : LB M_Bytes_addItem 2 := ⟨q_3, q_1482, ne_Bytes, pd_24⟩
theorem LB_FP_needForm : LB M_FP_needForm 1 := ⟨q_1, q_1524, ne_FP, pd_1⟩
theorem LB_Plan_leftOnForm : LB M_Plan_leftOnForm 1 := ⟨q_4, q_1546, ne_Plan, pd_9⟩
theorem LB_Plan_adsOnForm : LB M_Plan_adsOnForm 1 := ⟨q_4, q_1550, ne_Plan, pd_9⟩
theorem LB_Plan_lateOnForm : LB M_Plan_lateOnForm 1 := ⟨q_4, q_1558, ne_Plan, pd_9⟩
theorem LB_Plan_hasColorItem : LB M_Plan_hasColorItem 1 := ⟨q_4, q_1567, ne_Plan, pd_4⟩
theorem LB_Plan_formAt : LB M_Plan_formAt 1 := ⟨q_4, q_1554, ne_Plan, pd_9⟩
theorem LB_Plan_storyIsOn : LB M_Plan_storyIsOn 2 := ⟨q_4, q_1563, ne_Plan, pd_15⟩
theorem LB_Searches_roomiestForms : LB M_Searches_roomiestForms 1 := ⟨q_12, q_1587, ne_Searches, pd_9⟩
theorem LB_Integer_bitCount : LB M_Integer_bitCount 1 := ⟨q_28, q_1575, ne_Integer, pd_9⟩
theorem LB_Searches_leftOnSet : LB M_Searches_leftOnSet 1 := ⟨q_12, q_1592, ne_Searches, pd_9⟩
theorem LB_Plan_soonestForm : LB M_Plan_soonestForm 0 := ⟨q_4, q_1614, ne_Plan, pd_5⟩
theorem LB_Searches_evictedPrices : LB M_Searches_evictedPrices 2 := ⟨q_12, q_1683, ne_Searches, pd_14⟩
theorem LB_Plan_isUnfit : LB M_Plan_isUnfit 2 := ⟨q_4, q_1687, ne_Plan, pd_15⟩
theorem LB_Searches_rivalPricesBeside : LB M_Searches_rivalPricesBeside 2 := ⟨q_12, q_1691, ne_Searches, pd_14⟩
theorem LB_Searches_pricesForRoom : LB M_Searches_pricesForRoom 2 := ⟨q_12, q_1700, ne_Searches, pd_14⟩
theorem LB_Ads_areRivals : LB M_Ads_areRivals 2 := ⟨q_6, q_1695, ne_Ads, pd_15⟩
theorem LB_Searches_removedPrices : LB M_Searches_removedPrices 4 := ⟨q_12, q_1704, ne_Searches, pd_12⟩
theorem LB_Searches_cheapestFor : LB M_Searches_cheapestFor 1 := ⟨q_12, q_1713, ne_Searches, pd_9⟩
theorem LB_Plan_firstFor : LB M_Plan_firstFor 2 := ⟨q_4, q_1722, ne_Plan, pd_14⟩
theorem LB_FP_needGroup : LB M_FP_needGroup 1 := ⟨q_1, q_1737, ne_FP, pd_1⟩
theorem LB_Searches_lateItemAt : LB M_Searches_lateItemAt 1 := ⟨q_12, q_1797, ne_Searches, pd_9⟩
theorem LB_Searches_nextLateRank : LB M_Searches_nextLateRank 1 := ⟨q_12, q_1801, ne_Searches, pd_9⟩
theorem LB_Searches_adIsOpen : LB M_Searches_adIsOpen 1 := ⟨q_12, q_1805, ne_Searches, pd_4⟩
theorem LB_Searches_rankOf : LB M_Searches_rankOf 2 := ⟨q_12, q_1809, ne_Searches, pd_14⟩
theorem LB_Searches_nearerRank : LB M_Searches_nearerRank 3 := ⟨q_12, q_1812, ne_Searches, pd_25⟩
theorem LB_Plan_storyIsOpen : LB M_Plan_storyIsOpen 1 := ⟨q_4, q_1816, ne_Plan, pd_4⟩
theorem LB_Plan_storyIsOnFormThat : LB M_Plan_storyIsOnFormThat 2 := ⟨q_4, q_1820, ne_Plan, pd_15⟩
theorem LB_Searches_readyLast : LB M_Searches_readyLast 0 := ⟨q_12, q_1828, ne_Searches, pd_5⟩
theorem LB_Searches_bestExchange : LB M_Searches_bestExchange 0 := ⟨q_12, q_1853, ne_Searches, pd_5⟩
theorem LB_Searches_countColorPages : LB M_Searches_countColorPages 0 := ⟨q_12, q_1857, ne_Searches, pd_0⟩
theorem LB_Searches_fewerColorForms : LB M_Searches_fewerColorForms 2 := ⟨q_12, q_1862, ne_Searches, pd_14⟩
theorem LB_Plan_exchangeReason : LB M_Plan_exchangeReason 2 := ⟨q_4, q_1869, ne_Plan, pd_14⟩
theorem LB_Searches_oneIfAny : LB M_Searches_oneIfAny 1 := ⟨q_12, q_1865, ne_Searches, pd_9⟩
theorem LB_Plan_exchangedReason : LB M_Plan_exchangedReason 3 := ⟨q_4, q_1873, ne_Plan, pd_25⟩
theorem LB_Plan_exchanged : LB M_Plan_exchanged 3 := ⟨q_4, q_1876, ne_Plan, pd_25⟩
theorem LB_History_keep : LB M_History_keep 1 := ⟨q_13, q_1910, ne_History, pd_6⟩
theorem LB_Plan_storyIsPrinted : LB M_Plan_storyIsPrinted 1 := ⟨q_4, q_1925, ne_Plan, pd_4⟩
theorem LB_Plan_useReason : LB M_Plan_useReason 2 := ⟨q_4, q_1941, ne_Plan, pd_14⟩
theorem LB_Plan_closeDueForms : LB M_Plan_closeDueForms 0 := ⟨q_4, q_1968, ne_Plan, pd_5⟩
theorem LB_Plan_closeForm : LB M_Plan_closeForm 1 := ⟨q_4, q_1973, ne_Plan, pd_1⟩
theorem LB_Plan_replaceLateAds : LB M_Plan_replaceLateAds 1 := ⟨q_4, q_1977, ne_Plan, pd_1⟩
theorem LB_Standbys_unused : LB M_Standbys_unused 1 := ⟨q_8, q_1981, ne_Standbys, pd_9⟩
theorem LB_Searches_placeFreeAds : LB M_Searches_placeFreeAds 0 := ⟨q_12, q_1998, ne_Searches, pd_5⟩
theorem LB_Searches_insertAd : LB M_Searches_insertAd 2 := ⟨q_12, q_2002, ne_Searches, pd_2⟩
theorem LB_Searches_comesBefore : LB M_Searches_comesBefore 2 := ⟨q_12, q_2006, ne_Searches, pd_15⟩
theorem LB_Searches_layFreeStories : LB M_Searches_layFreeStories 0 := ⟨q_12, q_2019, ne_Searches, pd_5⟩
theorem LB_Searches_layFirst : LB M_Searches_layFirst 1 := ⟨q_12, q_2023, ne_Searches, pd_4⟩
theorem LB_FP_isPrice : LB M_FP_isPrice 1 := ⟨q_1, q_2032, ne_FP, pd_4⟩
theorem LB_String_coder : LB M_String_coder 0 := ⟨q_25, q_487, ne_String, pd_26⟩
theorem LB_String_isLatin1 : LB M_String_isLatin1 0 := ⟨q_25, q_497, ne_String, pd_8⟩
theorem LB_StringLatin1_charAt : LB M_StringLatin1_charAt 2 := ⟨q_35, q_500, ne_StringLatin1, pd_27⟩
theorem LB_String_checkIndex : LB M_String_checkIndex 2 := ⟨q_25, q_503, ne_String, pd_2⟩
theorem LB_Preconditions_checkIndex : LB M_Preconditions_checkIndex 3 := ⟨q_19, q_508, ne_Preconditions, pd_28⟩
theorem K_FP_9 : LIN "FlatPlan" 9 M_Reader_init 0 := ⟨LB_Reader_init, ⟨_, List.mem_of_getElem? (i := 0) rfl⟩, q_50, rfl, rfl⟩
theorem K_FP_25 : LIN "FlatPlan" 25 M_Searches_init 0 := ⟨LB_Searches_init, ⟨_, List.mem_of_getElem? (i := 6) rfl⟩, q_374, rfl, rfl⟩
theorem K_FP_37 : LI "FlatPlan" 37 M_History_init 0 := ⟨LB_History_init, q_413, q_414, rfl, rfl⟩
theorem K_FP_44 : LI "FlatPlan" 44 M_Bytes_init 1 := ⟨LB_Bytes_init, q_432, q_56, rfl, rfl⟩
theorem K_Reader_11 : LI "FlatPlan$Reader" 11 M_Bytes_init 1 := ⟨LB_Bytes_init, q_55, q_56, rfl, rfl⟩
theorem K_Reader_22 : LI "FlatPlan$Reader" 22 M_Plan_init 0 := ⟨LB_Plan_init, q_71, q_72, rfl, rfl⟩
theorem K_Plan_11 : LIN "FlatPlan$Plan" 11 M_State_init 0 := ⟨LB_State_init, ⟨_, List.mem_of_getElem? (i := 1) rfl⟩, q_78, rfl, rfl⟩
theorem K_Plan_34 : LV "FlatPlan$Plan" 34 (RC 4) M_Plan_begin 2 := ⟨LB_Plan_begin, q_279, q_280, q_281⟩
theorem K_State_9 : LIN "FlatPlan$State" 9 M_Ads_init 0 := ⟨LB_Ads_init, ⟨_, List.mem_of_getElem? (i := 2) rfl⟩, q_84, rfl, rfl⟩
theorem K_State_18 : LIN "FlatPlan$State" 18 M_Stories_init 0 := ⟨LB_Stories_init, ⟨_, List.mem_of_getElem? (i := 3) rfl⟩, q_141, rfl, rfl⟩
theorem K_State_25 : LIN "FlatPlan$State" 25 M_Standbys_init 0 := ⟨LB_Standbys_init, ⟨_, List.mem_of_getElem? (i := 4) rfl⟩, q_185, rfl, rfl⟩
theorem K_State_32 : LIN "FlatPlan$State" 32 M_Forms_init 0 := ⟨LB_Forms_init, ⟨_, List.mem_of_getElem? (i := 5) rfl⟩, q_208, rfl, rfl⟩
theorem K_Plan_83 : LQ "FlatPlan$Plan" 83 M_Arrays_fill 2 := ⟨LB_Arrays_fill, q_283, q_284⟩
theorem K_Plan_95 : LV "FlatPlan$Plan" 95 (RC 4) M_Plan_layOut 0 := ⟨LB_Plan_layOut, q_286, q_288, qs_0⟩
theorem K_Plan_98 : LV "FlatPlan$Plan" 98 (RC 4) M_Plan_recount 0 := ⟨LB_Plan_recount, q_293, q_294, q_295⟩
theorem K_Plan_119 : LV "FlatPlan$Plan" 119 (RC 4) M_Plan_hasPage 1 := ⟨LB_Plan_hasPage, q_297, q_298, q_299⟩
theorem K_Searches_11 : LI "FlatPlan$Searches" 11 M_Plan_init 0 := ⟨LB_Plan_init, q_378, q_72, rfl, rfl⟩
theorem K_History_17 : LIN "FlatPlan$History" 17 M_State_init 0 := ⟨LB_State_init, ⟨_, List.mem_of_getElem? (i := 7) rfl⟩, q_78, rfl, rfl⟩
theorem K_FP_57 : LV "FlatPlan" 57 (RC 5) M_Reader_readText 0 := ⟨LB_Reader_readText, q_456, q_457, q_458⟩
theorem K_FP_70 : LV "FlatPlan" 70 (RC 4) M_Plan_become 1 := ⟨LB_Plan_become, q_641, q_642, q_643⟩
theorem K_FP_74 : LV "FlatPlan" 74 (RC 3) M_History_forget 0 := ⟨LB_History_forget, q_671, q_672, q_673⟩
theorem K_Reader_41 : LV "FlatPlan$Reader" 41 (RC 4) M_Plan_begin 2 := ⟨LB_Plan_begin, q_460, q_280, q_281⟩
theorem K_Reader_45 : LV "FlatPlan$Reader" 45 (RC 5) M_Reader_nextToken 0 := ⟨LB_Reader_nextToken, q_461, q_463, qs_1⟩
theorem K_Reader_50 : LV "FlatPlan$Reader" 50 (RC 5) M_Reader_isWord 1 := ⟨LB_Reader_isWord, q_476, q_478, qs_2⟩
theorem K_Reader_54 : LV "FlatPlan$Reader" 54 (RC 5) M_Reader_readPlan 0 := ⟨LB_Reader_readPlan, q_528, q_530, qs_3⟩
theorem K_Reader_61 : LV "FlatPlan$Reader" 61 (RC 5) M_Reader_readStatement 0 := ⟨LB_Reader_readStatement, q_548, q_550, qs_8⟩
theorem K_Reader_198 : LV "FlatPlan$Reader" 198 (RC 1) M_Bytes_byteAt 1 := ⟨LB_Bytes_byteAt, q_465, q_466, q_467⟩
theorem K_Reader_202 : LQ "FlatPlan$Reader" 202 M_Reader_isLetter 1 := ⟨LB_Reader_isLetter, q_469, q_470⟩
theorem K_Reader_205 : LQ "FlatPlan$Reader" 205 M_Reader_isDigit 1 := ⟨LB_Reader_isDigit, q_472, q_473⟩
theorem K_Reader_208 : LV "FlatPlan$Reader" 208 (RC 16) M_String_length 0 := ⟨LB_String_length, q_480, q_481, q_482⟩
theorem K_Reader_212 : LV "FlatPlan$Reader" 212 (RC 16) M_String_charAt 1 := ⟨LB_String_charAt, q_490, q_491, q_492⟩
theorem K_Reader_64 : LV "FlatPlan$Reader" 64 (RC 5) M_Reader_readNumber 3 := ⟨LB_Reader_readNumber, q_532, q_534, qs_4⟩
theorem K_Reader_68 : LV "FlatPlan$Reader" 68 (RC 5) M_Reader_fail 1 := ⟨LB_Reader_fail, q_536, q_538, qs_5⟩
theorem K_Reader_72 : LV "FlatPlan$Reader" 72 (RC 5) M_Reader_readSemicolon 0 := ⟨LB_Reader_readSemicolon, q_544, q_546, qs_7⟩
theorem K_Reader_188 : LV "FlatPlan$Reader" 188 (RC 5) M_Reader_numberRead 0 := ⟨LB_Reader_numberRead, q_540, q_542, qs_6⟩
theorem K_Reader_77 : LV "FlatPlan$Reader" 77 (RC 5) M_Reader_readColor 0 := ⟨LB_Reader_readColor, q_553, q_555, qs_9⟩
theorem K_Reader_82 : LV "FlatPlan$Reader" 82 (RC 5) M_Reader_readAd 0 := ⟨LB_Reader_readAd, q_558, q_560, qs_10⟩
theorem K_Reader_87 : LV "FlatPlan$Reader" 87 (RC 5) M_Reader_readStory 0 := ⟨LB_Reader_readStory, q_574, q_576, qs_12⟩
theorem K_Reader_92 : LV "FlatPlan$Reader" 92 (RC 5) M_Reader_readStandby 0 := ⟨LB_Reader_readStandby, q_583, q_585, qs_13⟩
theorem K_Reader_97 : LV "FlatPlan$Reader" 97 (RC 5) M_Reader_readClose 0 := ⟨LB_Reader_readClose, q_592, q_594, qs_14⟩
theorem K_Reader_102 : LV "FlatPlan$Reader" 102 (RC 5) M_Reader_readPut 0 := ⟨LB_Reader_readPut, q_597, q_599, qs_15⟩
theorem K_Reader_107 : LV "FlatPlan$Reader" 107 (RC 5) M_Reader_readLay 0 := ⟨LB_Reader_readLay, q_626, q_628, qs_18⟩
theorem K_Reader_135 : LV "FlatPlan$Reader" 135 (RC 5) M_Reader_firstIsSize 0 := ⟨LB_Reader_firstIsSize, q_562, q_564, qs_11⟩
theorem K_Reader_138 : LV "FlatPlan$Reader" 138 (RC 0) M_Ads_add 4 := ⟨LB_Ads_add, q_569, q_570, q_571⟩
theorem K_Reader_185 : LSN "FlatPlan$Reader" 185 M_FP_isSize 1 := ⟨LB_FP_isSize, ⟨_, List.mem_of_getElem? (i := 8) rfl⟩, q_567⟩
theorem K_Reader_153 : LV "FlatPlan$Reader" 153 (RC 9) M_Stories_add 4 := ⟨LB_Stories_add, q_578, q_579, q_580⟩
theorem K_Reader_163 : LV "FlatPlan$Reader" 163 (RC 7) M_Standbys_add 1 := ⟨LB_Standbys_add, q_587, q_588, q_589⟩
theorem K_Reader_174 : LV "FlatPlan$Reader" 174 (RC 4) M_Plan_adReason 2 := ⟨LB_Plan_adReason, q_601, q_602, q_603⟩
theorem K_Reader_178 : LV "FlatPlan$Reader" 178 (RC 4) M_Plan_recount 0 := ⟨LB_Plan_recount, q_624, q_294, q_295⟩
theorem K_Plan_135 : LV "FlatPlan$Plan" 135 (RC 4) M_Plan_isPrinted 1 := ⟨LB_Plan_isPrinted, q_605, q_606, q_607⟩
theorem K_Plan_149 : LV "FlatPlan$Plan" 149 (RC 4) M_Plan_roomFor 2 := ⟨LB_Plan_roomFor, q_609, q_610, q_611⟩
theorem K_Plan_139 : LV "FlatPlan$Plan" 139 (RC 4) M_Plan_lacksColor 2 := ⟨LB_Plan_lacksColor, q_613, q_615, qs_16⟩
theorem K_Plan_146 : LQ "FlatPlan$Plan" 146 M_Plan_isWrongSide 2 := ⟨LB_Plan_isWrongSide, q_617, q_618⟩
theorem K_Plan_152 : LV "FlatPlan$Plan" 152 (RC 4) M_Plan_meetsRival 2 := ⟨LB_Plan_meetsRival, q_620, q_622, qs_17⟩
theorem K_Reader_182 : LV "FlatPlan$Reader" 182 (RC 4) M_Plan_layReason 2 := ⟨LB_Plan_layReason, q_630, q_631, q_632⟩
theorem K_Plan_156 : LV "FlatPlan$Plan" 156 (RC 4) M_Plan_pageReason 2 := ⟨LB_Plan_pageReason, q_634, q_636, qs_19⟩
theorem K_Plan_159 : LQ "FlatPlan$Plan" 159 M_Plan_lowerReason 2 := ⟨LB_Plan_lowerReason, q_638, q_639⟩
theorem K_Plan_101 : LV "FlatPlan$Plan" 101 (RC 8) M_State_copyFrom 1 := ⟨LB_State_copyFrom, q_645, q_646, q_647⟩
theorem K_State_37 : LV "FlatPlan$State" 37 (RC 0) M_Ads_copyFrom 1 := ⟨LB_Ads_copyFrom, q_649, q_650, q_651⟩
theorem K_State_41 : LV "FlatPlan$State" 41 (RC 9) M_Stories_copyFrom 1 := ⟨LB_Stories_copyFrom, q_656, q_657, q_658⟩
theorem K_State_44 : LV "FlatPlan$State" 44 (RC 7) M_Standbys_copyFrom 1 := ⟨LB_Standbys_copyFrom, q_661, q_662, q_663⟩
theorem K_State_47 : LV "FlatPlan$State" 47 (RC 2) M_Forms_copyFrom 1 := ⟨LB_Forms_copyFrom, q_666, q_667, q_668⟩
theorem K_FP_292 : LV "FlatPlan" 292 (RC 6) M_Searches_tightestAd 0 := ⟨LB_Searches_tightestAd, q_688, q_689, q_690⟩
theorem K_Searches_108 : LV "FlatPlan$Searches" 108 (RC 6) M_Searches_pagesFor 1 := ⟨LB_Searches_pagesFor, q_692, q_693, q_694⟩
theorem K_Searches_105 : LV "FlatPlan$Searches" 105 (RC 4) M_Plan_adReason 2 := ⟨LB_Plan_adReason, q_696, q_602, q_603⟩
theorem K_FP_301 : LV "FlatPlan" 301 (RC 6) M_Searches_matchedAds 0 := ⟨LB_Searches_matchedAds, q_701, q_702, q_703⟩
theorem K_Searches_140 : LQ "FlatPlan$Searches" 140 M_Arrays_fill 2 := ⟨LB_Arrays_fill, q_705, q_284⟩
theorem K_Searches_146 : LV "FlatPlan$Searches" 146 (RC 6) M_Searches_matchOneMore 1 := ⟨LB_Searches_matchOneMore, q_706, q_708, qs_20⟩
theorem K_Searches_149 : LV "FlatPlan$Searches" 149 (RC 6) M_Searches_mayMatch 2 := ⟨LB_Searches_mayMatch, q_710, q_712, qs_21⟩
theorem K_Searches_152 : LV "FlatPlan$Searches" 152 (RC 6) M_Searches_changePartners 1 := ⟨LB_Searches_changePartners, q_714, q_716, qs_22⟩
theorem K_FP_355 : LV "FlatPlan" 355 (RC 1) M_Bytes_byteAt 1 := ⟨LB_Bytes_byteAt, q_722, q_466, q_467⟩
theorem K_FP_358 : LV "FlatPlan" 358 (RC 3) M_History_bringBack 1 := ⟨LB_History_bringBack, q_727, q_728, q_729⟩
theorem K_History_35 : LV "FlatPlan$History" 35 (RC 4) M_Plan_become 1 := ⟨LB_Plan_become, q_731, q_642, q_643⟩
theorem K_FP_54 : LV "FlatPlan" 54 (RC 1) M_Bytes_addWord 1 := ⟨LB_Bytes_addWord, q_1002, q_1003, q_1004⟩
theorem K_Bytes_19 : LV "FlatPlan$Bytes" 19 (RC 1) M_Bytes_addByte 1 := ⟨LB_Bytes_addByte, q_1006, q_1007, q_1008⟩
theorem K_FP_162 : LV "FlatPlan" 162 (RC 10) M_FP_needAd 1 := ⟨LB_FP_needAd, q_1041, q_1043, qs_26⟩
theorem K_FP_185 : LQ "FlatPlan" 185 M_FP_orNone 1 := ⟨LB_FP_orNone, q_1113, q_1114⟩
theorem K_FP_189 : LV "FlatPlan" 189 (RC 4) M_Plan_isLate 1 := ⟨LB_Plan_isLate, q_1116, q_1117, q_1118⟩
theorem K_FP_192 : LV "FlatPlan" 192 (RC 10) M_FP_needStory 1 := ⟨LB_FP_needStory, q_1124, q_1126, qs_28⟩
theorem K_FP_200 : LV "FlatPlan" 200 (RC 10) M_FP_needStandby 1 := ⟨LB_FP_needStandby, q_1133, q_1135, qs_29⟩
theorem K_FP_124 : LQ "FlatPlan" 124 M_FP_placed 2 := ⟨LB_FP_placed, q_1142, q_1143⟩
theorem K_Law_28 : LV "FlatPlanLaw" 28 (RC 10) M_FP_page 2 := ⟨LB_FP_page, q_1185, q_1186, q_1187⟩
theorem K_FP_204 : LV "FlatPlan" 204 (RC 10) M_FP_needPage 1 := ⟨LB_FP_needPage, q_1189, q_1191, qs_30⟩
theorem K_FP_216 : LQ "FlatPlan" 216 M_FP_standing 3 := ⟨LB_FP_standing, q_1195, q_1196⟩
theorem K_FP_372 : LV "FlatPlan" 372 (RC 4) M_Plan_hasPage 1 := ⟨LB_Plan_hasPage, q_1193, q_298, q_299⟩
theorem K_Law_34 : LV "FlatPlanLaw" 34 (RC 10) M_FP_quarterPrice 0 := ⟨LB_FP_quarterPrice, q_1215, q_1216, q_1217⟩
theorem K_FP_348 : LV "FlatPlan" 348 (RC 10) M_FP_revenue 0 := ⟨LB_FP_revenue, q_1222, q_1150, q_1151⟩
theorem K_FP_351 : LV "FlatPlan" 351 (RC 1) M_Bytes_addItem 2 := ⟨LB_Bytes_addItem, q_1479, q_1480, q_1481⟩
theorem K_FP_223 : LV "FlatPlan" 223 (RC 10) M_FP_needForm 1 := ⟨LB_FP_needForm, q_1521, q_1523, qs_31⟩
theorem K_FP_232 : LV "FlatPlan" 232 (RC 4) M_Plan_leftOnForm 1 := ⟨LB_Plan_leftOnForm, q_1543, q_1544, q_1545⟩
theorem K_FP_235 : LV "FlatPlan" 235 (RC 4) M_Plan_adsOnForm 1 := ⟨LB_Plan_adsOnForm, q_1547, q_1548, q_1549⟩
theorem K_FP_238 : LV "FlatPlan" 238 (RC 4) M_Plan_lateOnForm 1 := ⟨LB_Plan_lateOnForm, q_1555, q_1556, q_1557⟩
theorem K_FP_241 : LV "FlatPlan" 241 (RC 4) M_Plan_hasColorItem 1 := ⟨LB_Plan_hasColorItem, q_1564, q_1565, q_1566⟩
theorem K_Plan_173 : LV "FlatPlan$Plan" 173 (RC 4) M_Plan_formAt 1 := ⟨LB_Plan_formAt, q_1551, q_1552, q_1553⟩
theorem K_Plan_186 : LV "FlatPlan$Plan" 186 (RC 4) M_Plan_isLate 1 := ⟨LB_Plan_isLate, q_1559, q_1117, q_1118⟩
theorem K_Plan_180 : LV "FlatPlan$Plan" 180 (RC 4) M_Plan_storyIsOn 2 := ⟨LB_Plan_storyIsOn, q_1560, q_1561, q_1562⟩
theorem K_FP_337 : LV "FlatPlan" 337 (RC 4) M_Plan_formAt 1 := ⟨LB_Plan_formAt, q_1572, q_1552, q_1553⟩
theorem K_FP_306 : LV "FlatPlan" 306 (RC 6) M_Searches_roomiestForms 1 := ⟨LB_Searches_roomiestForms, q_1584, q_1585, q_1586⟩
theorem K_Searches_159 : LQ "FlatPlan$Searches" 159 M_Integer_bitCount 1 := ⟨LB_Integer_bitCount, q_1588, q_1574⟩
theorem K_Searches_164 : LV "FlatPlan$Searches" 164 (RC 6) M_Searches_leftOnSet 1 := ⟨LB_Searches_leftOnSet, q_1589, q_1591, qs_32⟩
theorem K_Searches_178 : LV "FlatPlan$Searches" 178 (RC 4) M_Plan_leftOnForm 1 := ⟨LB_Plan_leftOnForm, q_1593, q_1544, q_1545⟩
theorem K_FP_277 : LV "FlatPlan" 277 (RC 4) M_Plan_soonestForm 0 := ⟨LB_Plan_soonestForm, q_1611, q_1612, q_1613⟩
theorem K_FP_244 : LV "FlatPlan" 244 (RC 4) M_Plan_adReason 2 := ⟨LB_Plan_adReason, q_1643, q_602, q_603⟩
theorem K_FP_286 : LV "FlatPlan" 286 (RC 6) M_Searches_pagesFor 1 := ⟨LB_Searches_pagesFor, q_1648, q_693, q_694⟩
theorem K_FP_248 : LV "FlatPlan" 248 (RC 4) M_Plan_layReason 2 := ⟨LB_Plan_layReason, q_1653, q_631, q_632⟩
theorem K_FP_295 : LV "FlatPlan" 295 (RC 6) M_Searches_evictedPrices 2 := ⟨LB_Searches_evictedPrices, q_1680, q_1681, q_1682⟩
theorem K_Searches_112 : LV "FlatPlan$Searches" 112 (RC 4) M_Plan_isUnfit 2 := ⟨LB_Plan_isUnfit, q_1684, q_1685, q_1686⟩
theorem K_Searches_118 : LV "FlatPlan$Searches" 118 (RC 6) M_Searches_rivalPricesBeside 2 := ⟨LB_Searches_rivalPricesBeside, q_1688, q_1690, qs_33⟩
theorem K_Searches_121 : LV "FlatPlan$Searches" 121 (RC 6) M_Searches_pricesForRoom 2 := ⟨LB_Searches_pricesForRoom, q_1697, q_1699, qs_34⟩
theorem K_Searches_124 : LV "FlatPlan$Searches" 124 (RC 0) M_Ads_areRivals 2 := ⟨LB_Ads_areRivals, q_1692, q_1693, q_1694⟩
theorem K_Searches_127 : LV "FlatPlan$Searches" 127 (RC 4) M_Plan_isPrinted 1 := ⟨LB_Plan_isPrinted, q_1696, q_606, q_607⟩
theorem K_Searches_130 : LV "FlatPlan$Searches" 130 (RC 6) M_Searches_removedPrices 4 := ⟨LB_Searches_removedPrices, q_1701, q_1703, qs_35⟩
theorem K_Searches_134 : LV "FlatPlan$Searches" 134 (RC 4) M_Plan_roomFor 2 := ⟨LB_Plan_roomFor, q_1705, q_610, q_611⟩
theorem K_FP_298 : LV "FlatPlan" 298 (RC 6) M_Searches_cheapestFor 1 := ⟨LB_Searches_cheapestFor, q_1710, q_1711, q_1712⟩
theorem K_Searches_137 : LV "FlatPlan$Searches" 137 (RC 6) M_Searches_evictedPrices 2 := ⟨LB_Searches_evictedPrices, q_1714, q_1681, q_1682⟩
theorem K_FP_289 : LV "FlatPlan" 289 (RC 4) M_Plan_firstFor 2 := ⟨LB_Plan_firstFor, q_1719, q_1720, q_1721⟩
theorem K_Plan_210 : LV "FlatPlan$Plan" 210 (RC 4) M_Plan_adReason 2 := ⟨LB_Plan_adReason, q_1724, q_602, q_603⟩
theorem K_FP_329 : LQ "FlatPlan" 329 M_FP_needGroup 1 := ⟨LB_FP_needGroup, q_1735, q_1736⟩
theorem K_FP_320 : LV "FlatPlan" 320 (RC 0) M_Ads_areRivals 2 := ⟨LB_Ads_areRivals, q_1752, q_1693, q_1694⟩
theorem K_FP_312 : LV "FlatPlan" 312 (RC 6) M_Searches_lateItemAt 1 := ⟨LB_Searches_lateItemAt, q_1794, q_1795, q_1796⟩
theorem K_Searches_201 : LV "FlatPlan$Searches" 201 (RC 6) M_Searches_nextLateRank 1 := ⟨LB_Searches_nextLateRank, q_1798, q_1800, qs_38⟩
theorem K_Searches_204 : LV "FlatPlan$Searches" 204 (RC 6) M_Searches_adIsOpen 1 := ⟨LB_Searches_adIsOpen, q_1802, q_1804, qs_39⟩
theorem K_Searches_210 : LV "FlatPlan$Searches" 210 (RC 4) M_Plan_isLate 1 := ⟨LB_Plan_isLate, q_1806, q_1117, q_1118⟩
theorem K_Searches_213 : LQ "FlatPlan$Searches" 213 M_Searches_rankOf 2 := ⟨LB_Searches_rankOf, q_1807, q_1808⟩
theorem K_Searches_216 : LQ "FlatPlan$Searches" 216 M_Searches_nearerRank 3 := ⟨LB_Searches_nearerRank, q_1810, q_1811⟩
theorem K_Searches_220 : LV "FlatPlan$Searches" 220 (RC 4) M_Plan_storyIsOpen 1 := ⟨LB_Plan_storyIsOpen, q_1813, q_1814, q_1815⟩
theorem K_Plan_177 : LV "FlatPlan$Plan" 177 (RC 4) M_Plan_storyIsOnFormThat 2 := ⟨LB_Plan_storyIsOnFormThat, q_1817, q_1819, qs_40⟩
theorem K_FP_315 : LV "FlatPlan" 315 (RC 6) M_Searches_readyLast 0 := ⟨LB_Searches_readyLast, q_1825, q_1826, q_1827⟩
theorem K_FP_309 : LV "FlatPlan" 309 (RC 6) M_Searches_bestExchange 0 := ⟨LB_Searches_bestExchange, q_1850, q_1851, q_1852⟩
theorem K_Searches_181 : LV "FlatPlan$Searches" 181 (RC 6) M_Searches_countColorPages 0 := ⟨LB_Searches_countColorPages, q_1854, q_1856, qs_41⟩
theorem K_Searches_184 : LV "FlatPlan$Searches" 184 (RC 6) M_Searches_fewerColorForms 2 := ⟨LB_Searches_fewerColorForms, q_1859, q_1861, qs_42⟩
theorem K_Searches_187 : LV "FlatPlan$Searches" 187 (RC 4) M_Plan_exchangeReason 2 := ⟨LB_Plan_exchangeReason, q_1866, q_1867, q_1868⟩
theorem K_Searches_190 : LV "FlatPlan$Searches" 190 (RC 4) M_Plan_hasPage 1 := ⟨LB_Plan_hasPage, q_1858, q_298, q_299⟩
theorem K_Searches_198 : LQ "FlatPlan$Searches" 198 M_Searches_oneIfAny 1 := ⟨LB_Searches_oneIfAny, q_1863, q_1864⟩
theorem K_Plan_163 : LV "FlatPlan$Plan" 163 (RC 4) M_Plan_exchangedReason 3 := ⟨LB_Plan_exchangedReason, q_1870, q_1872, qs_43⟩
theorem K_Plan_167 : LQ "FlatPlan$Plan" 167 M_Plan_exchanged 3 := ⟨LB_Plan_exchanged, q_1874, q_1875⟩
theorem K_Plan_170 : LV "FlatPlan$Plan" 170 (RC 0) M_Ads_areRivals 2 := ⟨LB_Ads_areRivals, q_1877, q_1693, q_1694⟩
theorem K_FP_251 : LV "FlatPlan" 251 (RC 4) M_Plan_isPrinted 1 := ⟨LB_Plan_isPrinted, q_1906, q_606, q_607⟩
theorem K_FP_155 : LV "FlatPlan" 155 (RC 3) M_History_keep 1 := ⟨LB_History_keep, q_1907, q_1908, q_1909⟩
theorem K_FP_254 : LV "FlatPlan" 254 (RC 4) M_Plan_recount 0 := ⟨LB_Plan_recount, q_1913, q_294, q_295⟩
theorem K_History_22 : LV "FlatPlan$History" 22 (RC 8) M_State_copyFrom 1 := ⟨LB_State_copyFrom, q_1911, q_646, q_647⟩
theorem K_FP_257 : LV "FlatPlan" 257 (RC 4) M_Plan_storyIsPrinted 1 := ⟨LB_Plan_storyIsPrinted, q_1922, q_1923, q_1924⟩
theorem K_FP_260 : LV "FlatPlan" 260 (RC 4) M_Plan_useReason 2 := ⟨LB_Plan_useReason, q_1938, q_1939, q_1940⟩
theorem K_FP_263 : LV "FlatPlan" 263 (RC 4) M_Plan_exchangeReason 2 := ⟨LB_Plan_exchangeReason, q_1950, q_1867, q_1868⟩
theorem K_FP_266 : LQ "FlatPlan" 266 M_Plan_exchanged 3 := ⟨LB_Plan_exchanged, q_1951, q_1875⟩
theorem K_FP_272 : LV "FlatPlan" 272 (RC 4) M_Plan_closeDueForms 0 := ⟨LB_Plan_closeDueForms, q_1965, q_1966, q_1967⟩
theorem K_Plan_190 : LV "FlatPlan$Plan" 190 (RC 4) M_Plan_soonestForm 0 := ⟨LB_Plan_soonestForm, q_1969, q_1612, q_1613⟩
theorem K_Plan_194 : LV "FlatPlan$Plan" 194 (RC 4) M_Plan_closeForm 1 := ⟨LB_Plan_closeForm, q_1970, q_1972, qs_44⟩
theorem K_Plan_198 : LV "FlatPlan$Plan" 198 (RC 4) M_Plan_replaceLateAds 1 := ⟨LB_Plan_replaceLateAds, q_1974, q_1976, qs_45⟩
theorem K_Plan_204 : LV "FlatPlan$Plan" 204 (RC 7) M_Standbys_unused 1 := ⟨LB_Standbys_unused, q_1978, q_1979, q_1980⟩
theorem K_FP_280 : LV "FlatPlan" 280 (RC 6) M_Searches_placeFreeAds 0 := ⟨LB_Searches_placeFreeAds, q_1995, q_1996, q_1997⟩
theorem K_Searches_63 : LV "FlatPlan$Searches" 63 (RC 6) M_Searches_insertAd 2 := ⟨LB_Searches_insertAd, q_1999, q_2001, qs_46⟩
theorem K_Searches_67 : LV "FlatPlan$Searches" 67 (RC 4) M_Plan_firstFor 2 := ⟨LB_Plan_firstFor, q_2007, q_1720, q_1721⟩
theorem K_Searches_71 : LV "FlatPlan$Searches" 71 (RC 4) M_Plan_recount 0 := ⟨LB_Plan_recount, q_2008, q_294, q_295⟩
theorem K_Searches_74 : LV "FlatPlan$Searches" 74 (RC 6) M_Searches_comesBefore 2 := ⟨LB_Searches_comesBefore, q_2003, q_2005, qs_47⟩
theorem K_FP_283 : LV "FlatPlan" 283 (RC 6) M_Searches_layFreeStories 0 := ⟨LB_Searches_layFreeStories, q_2016, q_2017, q_2018⟩
theorem K_Searches_95 : LV "FlatPlan$Searches" 95 (RC 6) M_Searches_layFirst 1 := ⟨LB_Searches_layFirst, q_2020, q_2022, qs_48⟩
theorem K_Searches_102 : LV "FlatPlan$Searches" 102 (RC 4) M_Plan_layReason 2 := ⟨LB_Plan_layReason, q_2024, q_631, q_632⟩
theorem K_FP_141 : LQ "FlatPlan" 141 M_FP_isSize 1 := ⟨LB_FP_isSize, q_2029, q_567⟩
theorem K_FP_145 : LQ "FlatPlan" 145 M_FP_isPrice 1 := ⟨LB_FP_isPrice, q_2030, q_2031⟩
theorem K_FP_158 : LV "FlatPlan" 158 (RC 0) M_Ads_add 4 := ⟨LB_Ads_add, q_2034, q_570, q_571⟩
theorem K_String_335 : LV "java/lang/String" 335 (RC 16) M_String_coder 0 := ⟨LB_String_coder, q_484, q_485, q_486⟩
theorem K_String_492 : LV "java/lang/String" 492 (RC 16) M_String_isLatin1 0 := ⟨LB_String_isLatin1, q_494, q_495, q_496⟩
theorem K_String_495 : LQ "java/lang/String" 495 M_StringLatin1_charAt 2 := ⟨LB_StringLatin1_charAt, q_498, q_499⟩
theorem K_StringLatin1_9 : LQ "java/lang/StringLatin1" 9 M_String_checkIndex 2 := ⟨LB_String_checkIndex, q_501, q_502⟩
theorem K_String_1059 : LQ "java/lang/String" 1059 M_Preconditions_checkIndex 3 := ⟨LB_Preconditions_checkIndex, q_506, q_507⟩
theorem TH_FP_363_365 : TH "FlatPlan" 363 365 367 "java/lang/IndexOutOfBoundsException" "no such ad" := ⟨by decide +kernel, q_1045, q_23, List.mem_of_getElem? (i := 0) rfl, by decide +kernel, by decide +kernel, by decide +kernel⟩
theorem TH_FP_363_368 : TH "FlatPlan" 363 368 367 "java/lang/IndexOutOfBoundsException" "no such story" := ⟨by decide +kernel, q_1045, q_23, List.mem_of_getElem? (i := 1) rfl, by decide +kernel, by decide +kernel, by decide +kernel⟩
theorem TH_FP_363_370 : TH "FlatPlan" 363 370 367 "java/lang/IndexOutOfBoundsException" "no such standby" := ⟨by decide +kernel, q_1045, q_23, List.mem_of_getElem? (i := 2) rfl, by decide +kernel, by decide +kernel, by decide +kernel⟩
theorem TH_FP_363_375 : TH "FlatPlan" 363 375 367 "java/lang/IndexOutOfBoundsException" "no such page" := ⟨by decide +kernel, q_1045, q_23, List.mem_of_getElem? (i := 3) rfl, by decide +kernel, by decide +kernel, by decide +kernel⟩
theorem TH_FP_343_345 : TH "FlatPlan" 343 345 347 "java/lang/ArithmeticException" "no ad is placed" := ⟨by decide +kernel, q_1219, q_26, List.mem_of_getElem? (i := 4) rfl, by decide +kernel, by decide +kernel, by decide +kernel⟩
theorem TH_FP_148_318 : TH "FlatPlan" 148 318 152 "java/lang/IllegalArgumentException" "a run has 1 to 64 pages" := ⟨by decide +kernel, q_1498, q_37, List.mem_of_getElem? (i := 5) rfl, by decide +kernel, by decide +kernel, by decide +kernel⟩
theorem TH_FP_363_377 : TH "FlatPlan" 363 377 367 "java/lang/IndexOutOfBoundsException" "no such form" := ⟨by decide +kernel, q_1045, q_23, List.mem_of_getElem? (i := 6) rfl, by decide +kernel, by decide +kernel, by decide +kernel⟩
theorem TH_FP_148_304 : TH "FlatPlan" 148 304 152 "java/lang/IllegalArgumentException" "1 to 8 forms can be asked for" := ⟨by decide +kernel, q_1498, q_37, List.mem_of_getElem? (i := 7) rfl, by decide +kernel, by decide +kernel, by decide +kernel⟩
theorem TH_FP_148_332 : TH "FlatPlan" 148 332 152 "java/lang/IllegalArgumentException" "no such spread" := ⟨by decide +kernel, q_1498, q_37, List.mem_of_getElem? (i := 9) rfl, by decide +kernel, by decide +kernel, by decide +kernel⟩
theorem TH_FP_148_379 : TH "FlatPlan" 148 379 152 "java/lang/IllegalArgumentException" "a group is 0 to 9" := ⟨by decide +kernel, q_1498, q_37, List.mem_of_getElem? (i := 8) rfl, by decide +kernel, by decide +kernel, by decide +kernel⟩
theorem TH_FP_148_270 : TH "FlatPlan" 148 270 152 "java/lang/IllegalArgumentException" "a closing time is 1 to 9999" := ⟨by decide +kernel, q_1498, q_37, List.mem_of_getElem? (i := 12) rfl, by decide +kernel, by decide +kernel, by decide +kernel⟩
theorem TH_FP_148_275 : TH "FlatPlan" 148 275 152 "java/lang/IllegalArgumentException" "1 to 500 hours can pass" := ⟨by decide +kernel, q_1498, q_37, List.mem_of_getElem? (i := 13) rfl, by decide +kernel, by decide +kernel, by decide +kernel⟩
theorem TH_FP_148_150 : TH "FlatPlan" 148 150 152 "java/lang/IllegalArgumentException" "no such ad can be added" := ⟨by decide +kernel, q_1498, q_37, List.mem_of_getElem? (i := 14) rfl, by decide +kernel, by decide +kernel, by decide +kernel⟩
theorem TH_FP_148_165 : TH "FlatPlan" 148 165 152 "java/lang/IllegalArgumentException" "a side is 0 to 2" := ⟨by decide +kernel, q_1498, q_37, List.mem_of_getElem? (i := 15) rfl, by decide +kernel, by decide +kernel, by decide +kernel⟩
theorem TH_FP_148_171 : TH "FlatPlan" 148 171 152 "java/lang/IllegalArgumentException" "a price is 1 to 999" := ⟨by decide +kernel, q_1498, q_37, List.mem_of_getElem? (i := 16) rfl, by decide +kernel, by decide +kernel, by decide +kernel⟩
theorem hw_0_0 {X : XT} {a : Nat} (h : HC X 0 a) : HA X 0 40 (tgt a 0) := h.goA (List.mem_of_getElem? (i := 0) rfl) (wt_0_0 h.is)
theorem hw_0_1 {X : XT} {a : Nat} (h : HC X 0 a) : HA X 0 40 (tgt a 1) := h.goA (List.mem_of_getElem? (i := 1) rfl) (wt_0_1 h.is)
theorem hw_0_2 {X : XT} {a : Nat} (h : HC X 0 a) : HA X 0 40 (tgt a 2) := h.goA (List.mem_of_getElem? (i := 2) rfl) (wt_0_2 h.is)
theorem hw_0_3 {X : XT} {a : Nat} (h : HC X 0 a) : HA X 0 40 (tgt a 3) := h.goA (List.mem_of_getElem? (i := 3) rfl) (wt_0_3 h.is)
theorem hw_0_4 {X : XT} {a : Nat} (h : HC X 0 a) : HA X 0 40 (tgt a 4) := h.goA (List.mem_of_getElem? (i := 4) rfl) (wt_0_4 h.is)
theorem hw_0_5 {X : XT} {a : Nat} (h : HC X 0 a) : HA X 0 40 (tgt a 5) := h.goA (List.mem_of_getElem? (i := 5) rfl) (wt_0_5 h.is)
theorem hw_0_6 {X : XT} {a : Nat} (h : HC X 0 a) : HA X 0 40 (tgt a 6) := h.goA (List.mem_of_getElem? (i := 6) rfl) (wt_0_6 h.is)
theorem hw_1_0 {X : XT} {a : Nat} (h : HC X 1 a) : HA X 0 (ln (tgt a 0)) (tgt a 0) := h.goA (List.mem_of_getElem? (i := 7) rfl) (wt_1_0 h.is)
theorem hw_2_0 {X : XT} {a : Nat} (h : HC X 2 a) : HA X 0 8 (tgt a 0) := h.goA (List.mem_of_getElem? (i := 8) rfl) (wt_2_0 h.is)
theorem hw_2_1 {X : XT} {a : Nat} (h : HC X 2 a) : HA X 0 8 (tgt a 1) := h.goA (List.mem_of_getElem? (i := 9) rfl) (wt_2_1 h.is)
theorem hw_2_2 {X : XT} {a : Nat} (h : HC X 2 a) : HA X 0 8 (tgt a 2) := h.goA (List.mem_of_getElem? (i := 10) rfl) (wt_2_2 h.is)
theorem hw_3_0 {X : XT} {a : Nat} (h : HC X 3 a) : HA X 5 20 (tgt a 0) := h.goA (List.mem_of_getElem? (i := 11) rfl) (wt_3_0 h.is)
theorem hw_4_0 {X : XT} {a : Nat} (h : HC X 4 a) : HC X 8 (tgt a 0) := h.go (List.mem_of_getElem? (i := 12) rfl) (wt_4_0 h.is)
theorem hw_4_3 {X : XT} {a : Nat} (h : HC X 4 a) : HA X 0 65 (tgt a 3) := h.goA (List.mem_of_getElem? (i := 13) rfl) (wt_4_3 h.is)
theorem hw_4_4 {X : XT} {a : Nat} (h : HC X 4 a) : HA X 0 65 (tgt a 4) := h.goA (List.mem_of_getElem? (i := 14) rfl) (wt_4_4 h.is)
theorem hw_4_5 {X : XT} {a : Nat} (h : HC X 4 a) : HA X 0 65 (tgt a 5) := h.goA (List.mem_of_getElem? (i := 15) rfl) (wt_4_5 h.is)
theorem hw_4_6 {X : XT} {a : Nat} (h : HC X 4 a) : HA X 0 65 (tgt a 6) := h.goA (List.mem_of_getElem? (i := 16) rfl) (wt_4_6 h.is)
theorem hw_4_7 {X : XT} {a : Nat} (h : HC X 4 a) : HA X 0 330 (tgt a 7) := h.goA (List.mem_of_getElem? (i := 17) rfl) (wt_4_7 h.is)
theorem hw_5_0 {X : XT} {a : Nat} (h : HC X 5 a) : HC X 1 (tgt a 0) := h.go (List.mem_of_getElem? (i := 18) rfl) (wt_5_0 h.is)
theorem hw_5_1 {X : XT} {a : Nat} (h : HC X 5 a) : HC X 4 (tgt a 1) := h.go (List.mem_of_getElem? (i := 19) rfl) (wt_5_1 h.is)
theorem hw_5_2 {X : XT} {a : Nat} (h : HC X 5 a) : HA X 0 6 (tgt a 2) := h.goA (List.mem_of_getElem? (i := 20) rfl) (wt_5_2 h.is)
theorem hw_6_0 {X : XT} {a : Nat} (h : HC X 6 a) : HC X 4 (tgt a 0) := h.go (List.mem_of_getElem? (i := 21) rfl) (wt_6_0 h.is)
theorem hw_6_1 {X : XT} {a : Nat} (h : HC X 6 a) : HC X 8 (tgt a 1) := h.go (List.mem_of_getElem? (i := 22) rfl) (wt_6_1 h.is)
theorem hw_6_2 {X : XT} {a : Nat} (h : HC X 6 a) : HA X 0 40 (tgt a 2) := h.goA (List.mem_of_getElem? (i := 23) rfl) (wt_6_2 h.is)
theorem hw_6_3 {X : XT} {a : Nat} (h : HC X 6 a) : HA X 0 4 (tgt a 3) := h.goA (List.mem_of_getElem? (i := 24) rfl) (wt_6_3 h.is)
theorem hw_6_4 {X : XT} {a : Nat} (h : HC X 6 a) : HA X 0 65 (tgt a 4) := h.goA (List.mem_of_getElem? (i := 25) rfl) (wt_6_4 h.is)
theorem hw_6_5 {X : XT} {a : Nat} (h : HC X 6 a) : HA X 0 40 (tgt a 5) := h.goA (List.mem_of_getElem? (i := 26) rfl) (wt_6_5 h.is)
theorem hw_6_6 {X : XT} {a : Nat} (h : HC X 6 a) : HA X 0 65 (tgt a 6) := h.goA (List.mem_of_getElem? (i := 27) rfl) (wt_6_6 h.is)
theorem hw_6_7 {X : XT} {a : Nat} (h : HC X 6 a) : HA X 0 40 (tgt a 7) := h.goA (List.mem_of_getElem? (i := 28) rfl) (wt_6_7 h.is)
theorem hw_6_8 {X : XT} {a : Nat} (h : HC X 6 a) : HA X 0 8 (tgt a 8) := h.goA (List.mem_of_getElem? (i := 29) rfl) (wt_6_8 h.is)
theorem hw_6_9 {X : XT} {a : Nat} (h : HC X 6 a) : HA X 0 65 (tgt a 9) := h.goA (List.mem_of_getElem? (i := 30) rfl) (wt_6_9 h.is)
theorem hw_7_0 {X : XT} {a : Nat} (h : HC X 7 a) : HA X 0 8 (tgt a 0) := h.goA (List.mem_of_getElem? (i := 31) rfl) (wt_7_0 h.is)
theorem hw_7_1 {X : XT} {a : Nat} (h : HC X 7 a) : HA X 0 8 (tgt a 1) := h.goA (List.mem_of_getElem? (i := 32) rfl) (wt_7_1 h.is)
theorem hw_8_0 {X : XT} {a : Nat} (h : HC X 8 a) : HC X 0 (tgt a 0) := h.go (List.mem_of_getElem? (i := 33) rfl) (wt_8_0 h.is)
theorem hw_8_1 {X : XT} {a : Nat} (h : HC X 8 a) : HC X 9 (tgt a 1) := h.go (List.mem_of_getElem? (i := 34) rfl) (wt_8_1 h.is)
theorem hw_8_2 {X : XT} {a : Nat} (h : HC X 8 a) : HC X 7 (tgt a 2) := h.go (List.mem_of_getElem? (i := 35) rfl) (wt_8_2 h.is)
theorem hw_8_3 {X : XT} {a : Nat} (h : HC X 8 a) : HC X 2 (tgt a 3) := h.go (List.mem_of_getElem? (i := 36) rfl) (wt_8_3 h.is)
theorem hw_9_0 {X : XT} {a : Nat} (h : HC X 9 a) : HA X 0 10 (tgt a 0) := h.goA (List.mem_of_getElem? (i := 37) rfl) (wt_9_0 h.is)
theorem hw_9_1 {X : XT} {a : Nat} (h : HC X 9 a) : HA X 0 10 (tgt a 1) := h.goA (List.mem_of_getElem? (i := 38) rfl) (wt_9_1 h.is)
theorem hw_9_2 {X : XT} {a : Nat} (h : HC X 9 a) : HA X 0 10 (tgt a 2) := h.goA (List.mem_of_getElem? (i := 39) rfl) (wt_9_2 h.is)
theorem hw_9_3 {X : XT} {a : Nat} (h : HC X 9 a) : HA X 0 10 (tgt a 3) := h.goA (List.mem_of_getElem? (i := 40) rfl) (wt_9_3 h.is)
theorem hw_9_4 {X : XT} {a : Nat} (h : HC X 9 a) : HA X 0 10 (tgt a 4) := h.goA (List.mem_of_getElem? (i := 41) rfl) (wt_9_4 h.is)
theorem hw_10_0 {X : XT} {a : Nat} (h : HC X 10 a) : HC X 5 (tgt a 0) := h.go (List.mem_of_getElem? (i := 42) rfl) (wt_10_0 h.is)
theorem hw_10_1 {X : XT} {a : Nat} (h : HC X 10 a) : HC X 1 (tgt a 1) := h.go (List.mem_of_getElem? (i := 43) rfl) (wt_10_1 h.is)
theorem hw_10_2 {X : XT} {a : Nat} (h : HC X 10 a) : HC X 6 (tgt a 2) := h.go (List.mem_of_getElem? (i := 44) rfl) (wt_10_2 h.is)
theorem hw_10_3 {X : XT} {a : Nat} (h : HC X 10 a) : HC X 4 (tgt a 3) := h.go (List.mem_of_getElem? (i := 45) rfl) (wt_10_3 h.is)
theorem hw_10_4 {X : XT} {a : Nat} (h : HC X 10 a) : HC X 3 (tgt a 4) := h.go (List.mem_of_getElem? (i := 46) rfl) (wt_10_4 h.is)
theorem hw_10_5 {X : XT} {a : Nat} (h : HC X 10 a) : HC X 1 (tgt a 5) := h.go (List.mem_of_getElem? (i := 47) rfl) (wt_10_5 h.is)
theorem hw_12_4 {X : XT} {a : Nat} (h : HC X 12 a) : HC X 13 (tgt a 4) := h.go (List.mem_of_getElem? (i := 48) rfl) (wt_12_4 h.is)
theorem hw_12_5 {X : XT} {a : Nat} (h : HC X 12 a) : HC X 13 (tgt a 5) := h.go (List.mem_of_getElem? (i := 49) rfl) (wt_12_5 h.is)
theorem hw_12_6 {X : XT} {a : Nat} (h : HC X 12 a) : HC X 13 (tgt a 6) := h.go (List.mem_of_getElem? (i := 50) rfl) (wt_12_6 h.is)
theorem hw_12_7 {X : XT} {a : Nat} (h : HC X 12 a) : HA X 2 (ln (tgt a 7)) (tgt a 7) := h.goA (List.mem_of_getElem? (i := 51) rfl) (wt_12_7 h.is)
theorem hw_12_8 {X : XT} {a : Nat} (h : HC X 12 a) : HA X 2 (ln (tgt a 8)) (tgt a 8) := h.goA (List.mem_of_getElem? (i := 52) rfl) (wt_12_8 h.is)
theorem hw_12_9 {X : XT} {a : Nat} (h : HC X 12 a) : HA X 0 (ln (tgt a 9)) (tgt a 9) := h.goA (List.mem_of_getElem? (i := 53) rfl) (wt_12_9 h.is)
theorem hw_13_0 {X : XT} {a : Nat} (h : HC X 13 a) : HA X 5 (ln (tgt a 0)) (tgt a 0) := h.goA (List.mem_of_getElem? (i := 54) rfl) (wt_13_0 h.is)
theorem hw_14_3 {X : XT} {a : Nat} (h : HC X 14 a) : HC X 13 (tgt a 3) := h.go (List.mem_of_getElem? (i := 55) rfl) (wt_14_3 h.is)
theorem hw_15_0 {X : XT} {a : Nat} (h : HC X 15 a) : HA X 1 (ln (tgt a 0)) (tgt a 0) := h.goA (List.mem_of_getElem? (i := 56) rfl) (wt_15_0 h.is)
theorem hw_16_0 {X : XT} {a : Nat} (h : HC X 16 a) : HA X 1 (ln (tgt a 0)) (tgt a 0) := h.goA (List.mem_of_getElem? (i := 57) rfl) (wt_16_0 h.is)
theorem lnAll : ∀ a, a < nCell → Nat.ble (ln a) 99999 = true := by decide +kernel
