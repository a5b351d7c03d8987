/-! matching: the queue grows -/
section Match3
variable {W : Vw} {M : Int → Bool} {k a0 q i y : Int} {S : St}
def BfW (W : Vw) (S : St) (M : Int → Bool) (a0 k : Int) : Prop := TrW W S M a0 k ∧ ∀ p : Int, 1 ≤ p → p ≤ pgs W → g S 510 p.toNat = -1 ∨ ((∃ l, 0 ≤ l ∧ l < k ∧ g S 510 p.toNat = g S 511 l.toNat ∧ adjW W (g S 511 l.toNat) p = true) ∧ ∃ j, 1 ≤ j ∧ j < k ∧ g S 511 j.toNat = g S 508 p.toNat)
theorem BfW.fresh (hV : Val W) (hC : MC W S M) (h : BfW W S M a0 k) (hM0 : M a0 = false) (hq : 1 ≤ q ∧ q ≤ pgs W) (hu : g S 510 q.toNat = -1) (hy : g S 508 q.toNat ≠ -1) : ((0 ≤ g S 508 q.toNat ∧ g S 508 q.toNat < nA W) ∧ M (g S 508 q.toNat) = true ∧ g S 509 (g S 508 q.toNat).toNat = q) ∧ (∀ j, 0 ≤ j → j < k → g S 511 j.toNat ≠ g S 508 q.toNat) ∧ k < 40 := by
  have b := hV.1.1
  obtain ⟨⟨kb, w0, wb, wd, wt⟩, hp⟩ := h
  have c := (hC.2 q hq.1 hq.2).resolve_left hy
  have ne : ∀ j, 0 ≤ j → j < k → g S 511 j.toNat ≠ g S 508 q.toNat := fun j j0 j1 e => by
    by_cases z : j = 0
    · rw [z] at e
      have e' : g S 511 0 = g S 508 q.toNat := e
      rw [w0] at e'
      rw [← e', hM0] at c
      exact Bool.false_ne_true c.2.1
    · obtain ⟨_, l, l0, l1, l2, _⟩ := wt j (by omega) j1
      rw [e, c.2.2, hu] at l2
      have := wb l l0 (by omega)
      omega
  refine ⟨c, ne, ?_⟩
  have cnt := sumR_inj (R := fun _ => true) (P := fun _ => true) (m := fun j => if j = k then g S 508 q.toNat else g S 511 j.toNat) (l := 0) (l' := 0) (N := (k + 1).toNat) (N' := (nA W).toNat) (fun j j0 j1 _ => by
    refine ⟨?_, rfl⟩
    show 0 ≤ (if j = k then g S 508 q.toNat else g S 511 j.toNat) ∧ (if j = k then g S 508 q.toNat else g S 511 j.toNat) < 0 + ((nA W).toNat : Int)
    by_cases z : j = k
    · rw [if_pos z]; omega
    · rw [if_neg z]
      have := wb j j0 (by omega)
      omega) (fun j j' j0 j1 j2 j3 _ _ e => by
    have e' : (if j = k then g S 508 q.toNat else g S 511 j.toNat) = (if j' = k then g S 508 q.toNat else g S 511 j'.toNat) := e
    by_cases z : j = k
    · rw [if_pos z] at e'
      by_cases z' : j' = k
      · omega
      · rw [if_neg z'] at e'
        exact absurd e'.symm (ne j' j2 (by omega))
    · rw [if_neg z] at e'
      by_cases z' : j' = k
      · rw [if_pos z'] at e'
        exact absurd e' (ne j j0 (by omega))
      · rw [if_neg z'] at e'
        by_cases l1 : j < j'
        · exact absurd e' (wd j j' j0 l1 (by omega))
        · by_cases l2 : j' < j
          · exact absurd e'.symm (wd j' j j2 l2 (by omega))
          · omega)
  have e1 : sumR (fun a => if (fun _ : Int => true) a = true then (1 : Int) else 0) 0 (k + 1).toNat = ((k + 1).toNat : Int) := sumR_k
  have e2 : sumR (fun a => if (fun _ : Int => true) a = true then (1 : Int) else 0) 0 (nA W).toNat = ((nA W).toNat : Int) := sumR_k
  rw [e1, e2] at cnt
  omega
end Match3

