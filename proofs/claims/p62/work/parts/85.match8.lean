/-! matching: the two answers -/
section Match8
variable {W : Vw} {M : Int → Bool} {T T0 T' S : St} {n : Int} {hs : Int → Vw}
theorem adj_or {a q : Int} : adjW W a q = true ↔ reas W a q = 0 ∨ reas W a q = 6 := decide_eq_true_iff
end Match8

