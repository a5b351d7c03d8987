/-! load: put and lay -/
section Places
variable {B : Int → Int} {L p s n v z q : Int} {S S' S0 T T' T0 : St} {V V' W : Vw} {k : Nat} {a : Int}
theorem reas_0 : 0 ≤ reas W a q ∧ reas W a q ≤ 6 := by
  unfold reas
  repeat' split
  all_goals decide
theorem layR_0 : 0 ≤ layR W s q ∧ layR W s q ≤ 5 := by
  have m := mnR_v (W := W) (s := s) (q := q) (n := (at_ W 7 s).toNat)
  unfold layR
  split
  · split
    · omega
    · split <;> decide
  · decide
end Places

