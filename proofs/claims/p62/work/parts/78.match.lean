/-! matching -/
section Match
variable {S T : St} {W : Vw} {n : Int} {hs : Int → Vw} {a q : Int}
def adjW (W : Vw) (a q : Int) : Bool := decide (reas W a q = 0 ∨ reas W a q = 6)
theorem S_mayMatch (h : PT S 5 W) (ha : 0 ≤ a ∧ a < nA W) : fn_Searches_mayMatch 505 a q S = some (adjW W a q) := by
  unfold fn_Searches_mayMatch adjW
  rw [tg_505_0, P_adReason h ha, bnO_s]
  by_cases c : reas W a q = 0
  · rw [if_pos c, decide_eq_true (.inl c)]
  · rw [if_neg c]
    by_cases d : reas W a q = 6
    · rw [if_pos d, decide_eq_true (.inr d)]
    · rw [if_neg d, decide_eq_false (fun e => e.elim c d)]
def MC (W : Vw) (S : St) (M : Int → Bool) : Prop := (∀ a, 0 ≤ a → a < 40 → if M a = true then (1 ≤ g S 509 a.toNat ∧ g S 509 a.toNat ≤ pgs W) ∧ a < nA W ∧ adjW W a (g S 509 a.toNat) = true ∧ g S 508 (g S 509 a.toNat).toNat = a else g S 509 a.toNat = 0) ∧ ∀ q, 1 ≤ q → q ≤ pgs W → g S 508 q.toNat = -1 ∨ ((0 ≤ g S 508 q.toNat ∧ g S 508 q.toNat < nA W) ∧ M (g S 508 q.toNat) = true ∧ g S 509 (g S 508 q.toNat).toNat = q)
theorem MC.mtc (hV : Val W) {M : Int → Bool} (h : MC W S M) : Mtc (adjW W) (nA W) (pgs W) M (fun a => g S 509 a.toNat) := by
  have b := hV.1.1
  refine ⟨fun a h1 h2 h3 => ?_, fun a b a1 a2 b1 b2 ha hb e => ?_⟩
  · have q := h.1 a h1 (by omega)
    rw [if_pos h3] at q
    exact ⟨q.1, q.2.2.1⟩
  · have qa := h.1 a a1 (by omega)
    have qb := h.1 b b1 (by omega)
    rw [if_pos ha] at qa
    rw [if_pos hb] at qb
    have e' : g S 509 a.toNat = g S 509 b.toNat := e
    rw [← qa.2.2.2, ← qb.2.2.2, e']
end Match

