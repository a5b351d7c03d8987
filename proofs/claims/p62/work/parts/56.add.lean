section AddAd2
variable {S T : St} {W : Vw} {s y p r : Int}
theorem F_isSize {z : Int} : fn_FP_isSize z S = some (decide (z = 1 ∨ z = 2 ∨ z = 4)) := by
  unfold fn_FP_isSize
  by_cases c1 : z = 1
  · rw [if_pos c1, decide_eq_true (.inl c1)]
  · rw [if_neg c1]
    by_cases c2 : z = 2
    · rw [if_pos c2, decide_eq_true (.inr (.inl c2))]
    · rw [if_neg c2]
      by_cases c3 : z = 4
      · rw [if_pos c3, decide_eq_true (.inr (.inr c3))]
      · rw [if_neg c3, decide_eq_false (by omega)]
end AddAd2

