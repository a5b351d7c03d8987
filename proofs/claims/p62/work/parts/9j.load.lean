/-! load: the two answers -/
section Load
variable {B : Int → Int} {L p s n v z c : Int} {S S' S0 T T' T0 U : St} {V V' W : Vw} {a : Int} {hs : Int → Vw}
def LdM (T T' : St) : Prop := Off T T' 514 516 ∧ (g T' 514 3 = g T 514 3 ∧ g T' 514 12 = g T 514 12) ∧ g T' 514 4 = 0 ∧ (∀ f, 760 ≤ f → g T' 515 f = g T 515 f) ∧ ∀ x, x < 380 → g T' 515 (380 + x) = g T 515 x
end Load

