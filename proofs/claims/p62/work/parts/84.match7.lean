/-! matching: the reference's search -/
section Match7
variable {W : Vw} {M : Int → Bool} {k a0 q i v : Int} {T T0 T' : St}
def FitR (W : Vw) (T : St) : Prop := ∀ a q : Int, 0 ≤ a → a < nA W → 1 ≤ q → q ≤ pgs W → g T 521 (65 * a + q).toNat = bi (adjW W a q)
def AllQ (W : Vw) (T : St) (a0 i p : Int) : Prop := (∀ q : Int, 1 ≤ q → q ≤ pgs W → adjW W a0 q = true → g T 519 q.toNat ≠ -1) ∧ (∀ l : Int, 0 ≤ l → l < i → g T 518 (g T 520 l.toNat).toNat ≠ -1 ∧ ∀ q : Int, 1 ≤ q → q ≤ pgs W → adjW W (g T 518 (g T 520 l.toNat).toNat) q = true → g T 519 q.toNat ≠ -1) ∧ ∀ q : Int, 1 ≤ q → q < p → adjW W (g T 518 (g T 520 i.toNat).toNat) q = true → g T 519 q.toNat ≠ -1
end Match7

