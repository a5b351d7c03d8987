/-! STATEMENTS COUNTED -/
section Cnt
variable {S : St} {L : List PC} {t : Nat} {bs : List Int}
def c59 (bs : List Int) (i : Int) : Int := if bs.getD i.toNat 0 = 59 then 1 else 0
theorem l_stm {N0 : Nat} (ht : StH L t bs) : ∀ (n N : Nat) (i a : Int), i + n = bs.length → 0 ≤ i → n < N → 0 ≤ a ∧ a ≤ i →
    lp (fun go q => lb2_Law_statements_4 t S L go q.1 q.2) N (a, i) = some (a + sumR (c59 bs) i n)
  | 0, N + 1, i, a, hi, h0, _, ha => by
    rw [lp_succ]
    show lb2_Law_statements_4 t S L _ a i = _
    unfold lb2_Law_statements_4
    rw [if_pos ht.k, k_strLen ht, bnO_s, if_pos (by omega)]
    show some a = some (a + 0)
    rw [Int.add_zero]
  | n + 1, N + 1, i, a, hi, h0, hN, ha => by
    have hb := ht.1.2.2
    have i1 : wr (i + 1) = i + 1 := wr_s (by omega) (by omega)
    have hun : ∀ gg : Int × Int → Option Int, lb2_Law_statements_4 t S L gg a i = gg (a + c59 bs i, i + 1) := fun gg => by
      unfold lb2_Law_statements_4 c59
      rw [if_pos ht.k, k_strLen ht, bnO_s, if_neg (by omega), if_pos ht.k, k_charAt ht ⟨h0, by omega⟩, bnO_s]
      by_cases c : bs.getD i.toNat 0 = 59
      · rw [if_pos c, if_pos c, nm_x, nm_x, i1, wr_s (z := a + 1) (by omega) (by omega)]
      · rw [if_neg c, if_neg c, nm_x, nm_x, i1, wr_s (z := a + 0) (by omega) (by omega)]
    have cb : 0 ≤ c59 bs i ∧ c59 bs i ≤ 1 := by unfold c59; split <;> omega
    have ih := l_stm (N0 := N0) ht n N (i + 1) (a + c59 bs i) (by omega) (by omega) (by omega) (by omega)
    rw [lp_succ]
    show lb2_Law_statements_4 t S L _ a i = _
    rw [hun]
    show lp (fun go q => lb2_Law_statements_4 t S L go q.1 q.2) N (_, _) = _
    rw [ih, Int.add_assoc]
    rfl
theorem l_statements (ht : StH L t bs) : gn_Law_statements t S L = some (sumR (c59 bs) 0 bs.length - 1) := by
  have hb := ht.1.2.2
  have q := l_stm (N0 := 0) (S := S) ht bs.length FU 0 0 (by omega) (Int.le_refl _) (FU_big (by omega)) (by omega)
  rw [Int.zero_add] at q
  have q : lo2_Law_statements_4 t S L FU (0, 0) = some (sumR (c59 bs) 0 bs.length) := q
  have b := sumR_bd (w := c59 bs) (l := 0) (h := 1) (n := bs.length) (i := 0) (fun j _ _ => by
    show 0 ≤ c59 bs j ∧ c59 bs j ≤ 1
    unfold c59
    split <;> omega)
  unfold gn_Law_statements
  rw [q, bnO_s, nm_x, wr_s (by omega) (by omega)]
end Cnt
