/-! closing of forms: the reference -/
section Close3
variable {W V : Vw} {S T0 T : St} {a f p i z s y n : Int} {hs : Int → Vw} {L : Nat → Int}
theorem u_wr {a f : Nat} : u S a f (wr z) = u S a f z := by unfold u wr; rw [Int32.ofInt_toInt]
end Close3

