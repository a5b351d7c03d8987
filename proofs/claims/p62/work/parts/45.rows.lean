section Rows
variable {S : St}
theorem F_isPrice {z : Int} : fn_FP_isPrice z S = some (decide (1 ≤ z ∧ z ≤ 999)) := by
  unfold fn_FP_isPrice
  by_cases c1 : z < 1
  · rw [if_pos c1, decide_eq_false (by omega)]
  · rw [if_neg c1]
    by_cases c2 : 999 < z
    · rw [if_pos c2, decide_eq_false (by omega)]
    · rw [if_neg c2, decide_eq_true (by omega)]
end Rows

