/-! RUNS OF EMPTY PAGES: what the law finds -/
def winB (W : Vw) (n p : Int) : Bool := !anyR (fun q => decide (lf W q ≠ 4)) p n.toNat
section Runs
variable {S : St} {L : List PC} {P : PA} {W : Vw}
theorem l_win (h : HP L P W) (hV : Val W) {n p a3 : Int} (hb : -1000 ≤ p ∧ p ≤ 1000 ∧ 0 ≤ n ∧ n ≤ 1000) : ∀ (m N : Nat) (s : Bool), (m : Int) ≤ n → m < N → lp (fun go z => lb2_Law_runs_32 (pT P) n a3 p S L go z.1 z.2) N (bi s, p + n - m) = some (bi (s && !anyR (fun q => decide (lf W q ≠ 4)) (p + n - m) m))
  | 0, N + 1, s, _, _ => by
    rw [lp_succ]
    show lb2_Law_runs_32 (pT P) n a3 p S L _ (bi s) (p + n - ((0 : Nat) : Int)) = some (bi (s && !false))
    unfold lb2_Law_runs_32
    rw [nm_x, wr_s (by omega) (by omega), if_pos (by omega), Bool.not_false, Bool.and_true]
  | m + 1, N + 1, s, hm, hN => by
    have e1 : p + n - ((m + 1 : Nat) : Int) + 1 = p + n - (m : Int) := by omega
    have i1 : wr (p + n - ((m + 1 : Nat) : Int) + 1) = p + n - (m : Int) := by rw [wr_s (by omega) (by omega), e1]
    have ih := fun s' => l_win h hV (a3 := a3) hb m N s' (by omega) (by omega)
    have ea : anyR (fun q => decide (lf W q ≠ 4)) (p + n - ((m + 1 : Nat) : Int)) (m + 1) = (decide (lf W (p + n - ((m + 1 : Nat) : Int)) ≠ 4) || anyR (fun q => decide (lf W q ≠ 4)) (p + n - (m : Int)) m) := by
      show (_ || anyR _ (p + n - ((m + 1 : Nat) : Int) + 1) m) = _
      rw [e1]
    rw [lp_succ, ea]
    have hun : ∀ gg, lb2_Law_runs_32 (pT P) n a3 p S L gg (bi s) (p + n - ((m + 1 : Nat) : Int)) = gg (bi (s && !decide (lf W (p + n - ((m + 1 : Nat) : Int)) ≠ 4)), p + n - (m : Int)) := fun gg => by
      unfold lb2_Law_runs_32
      rw [nm_x, wr_s (by omega) (by omega), if_neg (by omega)]
      cases s with
      | false =>
        rw [if_pos (show bi false = 0 from rfl), nm_x, i1]
        rfl
      | true =>
        rw [if_neg (show ¬ bi true = 0 by decide), if_pos h.k, l_left h hV, bnO_s]
        by_cases c : lf W (p + n - ((m + 1 : Nat) : Int)) = 4
        · rw [if_pos c, nm_x, i1, decide_eq_false (fun q => q c)]
          rfl
        · rw [if_neg c, nm_x, i1, decide_eq_true c]
          rfl
    show lb2_Law_runs_32 (pT P) n a3 p S L _ (bi s) (p + n - ((m + 1 : Nat) : Int)) = _
    rw [hun]
    show lp (fun go z => lb2_Law_runs_32 (pT P) n a3 p S L go z.1 z.2) N (_, _) = _
    rw [ih, Bool.not_or, Bool.and_assoc]
theorem l_runs20 (h : HP L P W) (hV : Val W) {n : Int} (hn : 1 ≤ n ∧ n ≤ 10) : ∀ (k N : Nat) (acc : Int), (k : Int) ≤ 100 → k < N → lp (fun go z => lb2_Law_runs_20 (pT P) n S L go z.1 z.2) N (acc, (k : Int)) = some (lowF (winB W n) k acc)
  | 0, N + 1, acc, _, _ => by
    rw [lp_succ]
    show lb2_Law_runs_20 (pT P) n S L _ acc ((0 : Nat) : Int) = some acc
    unfold lb2_Law_runs_20
    rw [if_pos (by omega)]
  | k + 1, N + 1, acc, hk, hN => by
    have ih := l_runs20 h hV hn k N (if winB W n ((k : Int) + 1) = true then (k : Int) + 1 else acc) (by omega) (by omega)
    have w := l_win (S := S) h hV (n := n) (p := (k : Int) + 1) (a3 := acc) ⟨by omega, by omega, by omega, by omega⟩ n.toNat FU true (by omega) (FU_big (by omega))
    rw [show (k : Int) + 1 + n - (n.toNat : Nat) = (k : Int) + 1 by omega, Bool.true_and] at w
    have i1 : wr ((k : Int) + 1 + (-1)) = (k : Int) := by rw [wr_s (by omega) (by omega)]; omega
    have hun : ∀ gg, lb2_Law_runs_20 (pT P) n S L gg acc ((k : Int) + 1) = gg ((if winB W n ((k : Int) + 1) = true then (k : Int) + 1 else acc), (k : Int)) := fun gg => by
      unfold lb2_Law_runs_20
      rw [if_neg (by omega), show lo2_Law_runs_32 (pT P) n acc ((k : Int) + 1) S L FU (1, (k : Int) + 1) = some (bi (winB W n ((k : Int) + 1))) from w, bnO_s]
      cases winB W n ((k : Int) + 1) with
      | true => rw [if_neg (show ¬ bi true = 0 by decide), nm_x, i1, if_pos rfl]
      | false => rw [if_pos (show bi false = 0 from rfl), nm_x, i1, if_neg Bool.false_ne_true]
    rw [lp_succ, show ((k + 1 : Nat) : Int) = (k : Int) + 1 by omega]
    show lb2_Law_runs_20 (pT P) n S L _ acc ((k : Int) + 1) = _
    rw [hun]
    exact ih
end Runs
