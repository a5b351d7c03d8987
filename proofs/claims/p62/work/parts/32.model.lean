section RefSums
variable {S : St} {W : Vw}
theorem sub_neg' (a b : Int) : a - b = a + -b := Int.sub_eq_add_neg
theorem bi_t : bi true = 1 := rfl
theorem bi_f : bi false = 0 := rfl
theorem i_ord {b : Bool} {c : Prop} [Decidable c] : i_or (bi b) (if c then 1 else 0) = bi (b || decide c) := by
  by_cases h : c
  · rw [if_pos h, decide_eq_true h]; exact i_orb (c := true)
  · rw [if_neg h, decide_eq_false h]; exact i_orb (c := false)
theorem i_or_t {b : Bool} : i_or (bi b) 1 = bi (b || true) := i_orb (c := true)
theorem i_or_f {b : Bool} : i_or (bi b) 0 = bi (b || false) := i_orb (c := false)
theorem bi_0 {b : Bool} : (bi b = 0) = (b = false) := by cases b <;> simp [bi]
theorem bi_1 {b : Bool} : (bi b = 1) = (b = true) := by cases b <;> simp [bi]
theorem bi_01 {b : Bool} : bi b = 0 ∨ bi b = 1 := by cases b <;> simp [bi]
theorem bi_d {b : Bool} : decide (bi b = 1) = b := by cases b <;> rfl
end RefSums

