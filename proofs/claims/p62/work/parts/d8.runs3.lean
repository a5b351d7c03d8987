/-! RUNS OF EMPTY PAGES: the question -/
section Runs3
variable {S : St} {L : List PC} {P : PA} {W : Vw}
theorem l_run1 (h : HP L P W) (hV : Val W) {n : Int} (hn : 1 ≤ n ∧ n ≤ 10) : lo2_Law_runs_20 (pT P) n S L FU (-1, pgs W - n + 1) = some (fstR (winB W n) 1 (pgs W - n + 1).toNat) := by
  have b := hV.pg
  by_cases c : 0 ≤ pgs W - n + 1
  · have q := l_runs20 (S := S) h hV hn (pgs W - n + 1).toNat FU (-1) (by omega) (FU_big (by omega))
    rw [show (((pgs W - n + 1).toNat : Nat) : Int) = pgs W - n + 1 by omega, lowF_fst] at q
    have e : (if fstR (winB W n) 1 (pgs W - n + 1).toNat = -1 then (-1 : Int) else fstR (winB W n) 1 (pgs W - n + 1).toNat) = fstR (winB W n) 1 (pgs W - n + 1).toNat := by
      split
      · rename_i z; exact z.symm
      · rfl
    rw [e] at q
    exact q
  · show lp (fun go z => lb2_Law_runs_20 (pT P) n S L go z.1 z.2) FU (-1, pgs W - n + 1) = _
    rw [show FU = (FU - 1) + 1 by have := FU_big (n := 0) (by decide); omega, lp_succ]
    show lb2_Law_runs_20 (pT P) n S L _ (-1) (pgs W - n + 1) = _
    unfold lb2_Law_runs_20
    rw [if_pos (by omega), show (pgs W - n + 1).toNat = 0 by omega]
    rfl
theorem l_runsLoop (h : HP L P W) (hG : Good W) (hT : PT S 5 W) : ∀ (m N n : Nat), n + m = 10 → 1 ≤ n → m < N → lp (fun go p => lb2_Law_runs_2 (pT P) go p.1 p.2.1 p.2.2) N ((n : Int), (S, L)) = some (.inr (S, L), m, 6 * m)
  | 0, N + 1, n, hn, _, _ => by
    rw [lp_succ]
    show lb2_Law_runs_2 (pT P) _ (n : Int) S L = _
    unfold lb2_Law_runs_2
    rw [if_pos (by omega)]
  | m + 1, N + 1, n, hn, h1, hN => by
    have hV := hG.1
    have b := hV.pg
    have ih := l_runsLoop h hG hT m N (n + 1) (by omega) (by omega) (by omega)
    have q := l_run1 (S := S) h hV (n := (n : Int)) ⟨by omega, by omega⟩
    have c := c_emptyRun hT hG (a := (n : Int)) (by unfold inR; omega) ⟨by omega, by omega⟩
    rw [em_fst hV ⟨by omega, by omega⟩] at c
    have hun : ∀ gg, lb2_Law_runs_2 (pT P) gg (n : Int) S L = adC 1 6 (gg (((n + 1 : Nat) : Int), (S, L))) := fun gg => by
      unfold lb2_Law_runs_2
      rw [if_neg (by omega), if_pos h.k, l_pages h hV, bnO_s, nm_x, wr_s (by omega) (by omega), q, bnO_s, c, bnO_s, if_pos rfl, if_pos rfl, nm_x, wr_s (by omega) (by omega), show ((n + 1 : Nat) : Int) = (n : Int) + 1 by omega]
    rw [lp_succ]
    show lb2_Law_runs_2 (pT P) _ (n : Int) S L = _
    rw [hun]
    show adC 1 6 (lp (fun go p => lb2_Law_runs_2 (pT P) go p.1 p.2.1 p.2.2) N (((n + 1 : Nat) : Int), (S, L))) = _
    rw [ih]
    show some (_, m + 1, 6 * m + 6) = _
    rw [show 6 * m + 6 = 6 * (m + 1) by omega]
theorem l_runs (h : HP L P W) (hG : Good W) (hT : PT S 5 W) : gn_Law_runs (pT P) S L = some ((true, (S, L)), 9, 54) := by
  have q := l_runsLoop (S := S) h hG hT 9 FU 1 rfl (Nat.le_refl _) (FU_big (by omega))
  unfold gn_Law_runs bnT
  rw [show lo2_Law_runs_2 (pT P) FU (1, (S, L)) = _ from q, bnO_s]
  rfl
end Runs3
