/-! WHAT THE STATEMENT GIVES OF THE START -/
def narL : List Cond := flatC (Jvm.Cond.and given_1 narrow_1)
def tmI : List (String × Nat) := [("FlatPlan$Reader", 48), ("FlatPlan$Reader", 75), ("FlatPlan$Reader", 80), ("FlatPlan$Reader", 85), ("FlatPlan$Reader", 90), ("FlatPlan$Reader", 95), ("FlatPlan$Reader", 100), ("FlatPlan$Reader", 105), ("FlatPlanLaw", 161), ("FlatPlanLaw", 166), ("FlatPlanLaw", 193), ("FlatPlanLaw", 195), ("FlatPlanLaw", 197), ("FlatPlanLaw", 366), ("FlatPlanLaw", 368), ("FlatPlanLaw", 370), ("FlatPlanLaw", 372), ("FlatPlanLaw", 374), ("FlatPlanLaw", 381), ("FlatPlanLaw", 384), ("FlatPlanLaw", 387), ("FlatPlanLaw", 389), ("FlatPlanLaw", 391), ("FlatPlanLaw", 494)]
def tmS (i : Nat) : Term := .string (tmI.getD i ("", 0)).1 (tmI.getD i ("", 0)).2
theorem n_ex_ : ∀ i, i < nLit → narL[([290, 298, 307, 313, 322, 333, 342, 349, 441, 445, 451, 457, 463, 607, 616, 621, 626, 636, 642, 649, 659, 671, 681, 828] : List Nat).getD i 0]? = some (Cond.exactly (tmS i) "java/lang/String") := by decide +kernel
theorem n_ex : ∀ i, i < nLit → Cond.exactly (tmS i) "java/lang/String" ∈ narL := fun i hi => List.mem_of_getElem? (n_ex_ i hi)
theorem n_co_ : ∀ i, i < nLit → narL[([291, 299, 308, 314, 323, 334, 343, 350, 442, 446, 452, 458, 464, 608, 617, 622, 627, 637, 643, 650, 660, 672, 682, 829] : List Nat).getD i 0]? = some (Cond.eq (.field (tmS i) "java/lang/String" "coder" "B") (.int 0)) := by decide +kernel
theorem n_co : ∀ i, i < nLit → Cond.eq (.field (tmS i) "java/lang/String" "coder" "B") (.int 0) ∈ narL := fun i hi => List.mem_of_getElem? (n_co_ i hi)
theorem n_ar_ : ∀ i, i < nLit → narL[([292, 300, 309, 315, 324, 335, 344, 351, 443, 447, 453, 459, 465, 609, 618, 623, 628, 638, 644, 651, 661, 673, 683, 830] : List Nat).getD i 0]? = some (Cond.arrayOf (.field (tmS i) "java/lang/String" "value" "[B") .byte) := by decide +kernel
theorem n_ar : ∀ i, i < nLit → Cond.arrayOf (.field (tmS i) "java/lang/String" "value" "[B") .byte ∈ narL := fun i hi => List.mem_of_getElem? (n_ar_ i hi)
theorem n_le_ : ∀ i, i < nLit → narL[([293, 301, 310, 316, 325, 336, 345, 352, 444, 448, 454, 460, 466, 610, 619, 624, 629, 639, 645, 652, 662, 674, 684, 831] : List Nat).getD i 0]? = some (Cond.eq (.length (.field (tmS i) "java/lang/String" "value" "[B")) (.int (Int32.ofNat (lenS.getD i 0)))) := by decide +kernel
theorem n_le : ∀ i, i < nLit → Cond.eq (.length (.field (tmS i) "java/lang/String" "value" "[B")) (.int (Int32.ofNat (lenS.getD i 0))) ∈ narL := fun i hi => List.mem_of_getElem? (n_le_ i hi)
theorem n_el_ : ∀ i, i < nLit → ∀ j, j < lenS.getD i 0 → narL[([294, 302, 311, 317, 326, 337, 346, 353, 0, 449, 455, 461, 467, 611, 620, 625, 630, 640, 646, 653, 663, 675, 685, 832] : List Nat).getD i 0 + j]? = some (Cond.eq (.elem (.field (tmS i) "java/lang/String" "value" "[B") (.int (Int32.ofNat j))) (.int ((bytS.getD i []).getD j 0))) := by decide +kernel
theorem n_el : ∀ i, i < nLit → ∀ j, j < lenS.getD i 0 → Cond.eq (.elem (.field (tmS i) "java/lang/String" "value" "[B") (.int (Int32.ofNat j))) (.int ((bytS.getD i []).getD j 0)) ∈ narL := fun i hi j hj => List.mem_of_getElem? (n_el_ i hi j hj)
theorem n_st : ∀ q ∈ strT, Cond.exactly (.string q.1 q.2.1) "java/lang/String" ∈ narL := by decide +kernel
theorem n_nc : ∀ q ∈ ncT, Cond.not (.castable q.1 q.2) ∈ narL := by decide +kernel
theorem n_cs : Cond.eq (.static "java/lang/String" "COMPACT_STRINGS" "Z") (.int 1) ∈ narL := by decide +kernel
theorem n_sf : Cond.isRef (.static "jdk/internal/util/Preconditions" "SIOOBE_FORMATTER" "Ljava/util/function/BiFunction;") ∈ narL := by decide +kernel
theorem n_us : Cond.isRef (.static Bundle.tN "UNASSIGNED_STACK" Bundle.steD) ∈ narL := by decide +kernel
theorem n_su : Cond.isRef (.static Bundle.tN "SUPPRESSED_SENTINEL" Bundle.listD) ∈ narL := by decide +kernel
theorem n_sl : Cond.eq (.string "FlatPlanLaw" 161) (.string "java/lang/StringLatin1" 151) ∈ narL := by decide +kernel
theorem n_sx : Cond.exactly (.string "java/lang/StringLatin1" 151) "java/lang/String" ∈ narL := by decide +kernel
theorem n_mi : Cond.isRef (.mirror "[Ljava/lang/Object;") ∈ narL := by decide +kernel
abbrev tEm : Term := .static "java/util/ArrayList" "DEFAULTCAPACITY_EMPTY_ELEMENTDATA" "[Ljava/lang/Object;"
abbrev tOn : Term := .static "java/lang/Integer" "DigitOnes" "[B"
abbrev tTe : Term := .static "java/lang/Integer" "DigitTens" "[B"
abbrev tCa : Term := .static "java/lang/Integer$IntegerCache" "cache" "[Ljava/lang/Integer;"
theorem n_ema : Cond.arrayOf tEm (.object "java/lang/Object") ∈ narL := by decide +kernel
theorem n_eml : Cond.eq (.length tEm) (.int (Int32.ofNat 0)) ∈ narL := by decide +kernel
theorem n_Ona : Cond.arrayOf tOn .byte ∈ narL := by decide +kernel
theorem n_Onl : Cond.eq (.length tOn) (.int (Int32.ofNat 100)) ∈ narL := by decide +kernel
theorem n_One_ : ∀ j, j < 100 → narL[23 + j]? = some (Cond.eq (.elem tOn (.int (Int32.ofNat j))) (.int (Int32.ofNat (48 + j % 10)))) := by decide +kernel
theorem n_One : ∀ j, j < 100 → Cond.eq (.elem tOn (.int (Int32.ofNat j))) (.int (Int32.ofNat (48 + j % 10))) ∈ narL := fun j hj => List.mem_of_getElem? (n_One_ j hj)
theorem n_Tea : Cond.arrayOf tTe .byte ∈ narL := by decide +kernel
theorem n_Tel : Cond.eq (.length tTe) (.int (Int32.ofNat 100)) ∈ narL := by decide +kernel
theorem n_Tee_ : ∀ j, j < 100 → narL[126 + j]? = some (Cond.eq (.elem tTe (.int (Int32.ofNat j))) (.int (Int32.ofNat (48 + j / 10)))) := by decide +kernel
theorem n_Tee : ∀ j, j < 100 → Cond.eq (.elem tTe (.int (Int32.ofNat j))) (.int (Int32.ofNat (48 + j / 10))) ∈ narL := fun j hj => List.mem_of_getElem? (n_Tee_ j hj)
theorem n_caa : Cond.arrayOf tCa (.object "java/lang/Integer") ∈ narL := by decide +kernel
theorem n_cal : Cond.eq (.length tCa) (.int (Int32.ofNat 256)) ∈ narL := by decide +kernel
theorem n_cae : Cond.all tCa (.and (.exactly (.elem tCa (.index 0)) "java/lang/Integer") (.eq (.field (.elem tCa (.index 0)) "java/lang/Integer" "value" "I") (.sub (.index 0) (.int 128)))) ∈ narL := by decide +kernel
theorem n_hi : Cond.eq (.static "java/lang/Integer$IntegerCache" "high" "I") (.int 127) ∈ narL := by decide +kernel
theorem w_ls : ∀ i, i < nLit → Cond.stringRef (tmI.getD i ("", 0)).1 (tmI.getD i ("", 0)).2 ((litT.map (fun q => q.2.2.1)).getD i "") ∈ lw_tbl := by
  intro i hi
  match i, hi with
  | 0, _ => exact tb2 (i := 235) rfl
  | 1, _ => exact tb3 (i := 72) rfl
  | 2, _ => exact tb3 (i := 77) rfl
  | 3, _ => exact tb3 (i := 93) rfl
  | 4, _ => exact tb3 (i := 102) rfl
  | 5, _ => exact tb3 (i := 111) rfl
  | 6, _ => exact tb3 (i := 116) rfl
  | 7, _ => exact tb3 (i := 145) rfl
  | 8, _ => exact tb6 (i := 74) rfl
  | 9, _ => exact tb6 (i := 105) rfl
  | 10, _ => exact tb7 (i := 32) rfl
  | 11, _ => exact tb7 (i := 33) rfl
  | 12, _ => exact tb7 (i := 34) rfl
  | 13, _ => exact tb8 (i := 201) rfl
  | 14, _ => exact tb8 (i := 202) rfl
  | 15, _ => exact tb8 (i := 203) rfl
  | 16, _ => exact tb8 (i := 204) rfl
  | 17, _ => exact tb8 (i := 205) rfl
  | 18, _ => exact tb8 (i := 209) rfl
  | 19, _ => exact tb8 (i := 211) rfl
  | 20, _ => exact tb8 (i := 213) rfl
  | 21, _ => exact tb8 (i := 214) rfl
  | 22, _ => exact tb8 (i := 215) rfl
  | 23, _ => exact tb9 (i := 166) rfl
  | n + 24, h => exact absurd h (by unfold nLit; omega)
