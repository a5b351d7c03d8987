section Exch2
variable {S T : St} {W : Vw} {p q : Int}
/-! the reference's pages, exchanged and back: without thinking of what was thrown -/
theorem exR_b : 0 ≤ exR W p q ∧ exR W p q ≤ 6 := by
  have v := exM_v (W := mpV W (exF p q)) (p := p) (q := q)
  unfold exR
  repeat' split
  all_goals omega
end Exch2

