/-! GROUPS: rivals on spreads side by side -/
section Near
variable {S : St} {L : List PC} {P : PA} {W : Vw}
def nrP (W : Vw) (k j : Int) : Int := if at_ W 1 k ≤ 0 then 0 else if at_ W 1 j = at_ W 1 k then (if at_ W 6 k ≤ 0 then 0 else if at_ W 6 j ≤ 0 then 0 else if i_abs (at_ W 6 k / 2 - at_ W 6 j / 2) = 1 then 1 else 0) else 0
theorem l_near68 (h : HP L P W) (hV : Val W) {c4 x : Nat} {k z : Int} (hk : 0 ≤ k ∧ k < nA W) (hx : (xA P)[k.toNat]? = some x) (hz : inR z) : lo2_Law_groups_68 (pT P) c4 k x S L FU (z, 0) = some (wr (z + sumR (fun j => nrP W k j) 0 k.toNat)) := by
  have b := hV.z
  obtain ⟨-, -, g1, -, -, -, g5, -⟩ := ad_f hV hk (h.1.2.2.1 _ _ hx)
  have vk := hV.2.1 k hk.1 hk.2
  have q := lp_sum (body := fun go z => lb2_Law_groups_68 (pT P) c4 k x S L go z.1 z.2) (fun j => nrP W k j) 0 k
    (fun go a i h0 => by
      show lb2_Law_groups_68 (pT P) c4 k x S L go a i = _
      unfold lb2_Law_groups_68
      rw [if_pos h0])
    (fun go a i ha h1 h2 => by
      show lb2_Law_groups_68 (pT P) c4 k x S L go a i = _
      obtain ⟨y, -, hg, hy⟩ := h.ad (i := i) ⟨h1, by omega⟩
      obtain ⟨kk, -, f1, -, -, -, f5, -⟩ := ad_f hV (i := i) ⟨h1, by omega⟩ hy
      have v := hV.2.1 i h1 (by omega)
      have i1 : wr (i + 1) = i + 1 := wr_s (by omega) (by omega)
      unfold lb2_Law_groups_68
      simp only [g1, bnO_s, nm_x, h.fA, rfB_r, h.kA, eq_self, if_true, hg, kk, f1, f5, g5, i1]
      rw [if_neg (by omega)]
      unfold nrP
      by_cases c1 : at_ W 1 k ≤ 0
      · rw [if_pos c1, if_pos c1]
      · rw [if_neg c1, if_neg c1]
        by_cases c2 : at_ W 1 i = at_ W 1 k
        · rw [if_pos c2, if_pos c2]
          by_cases c3 : at_ W 6 k ≤ 0
          · rw [if_pos c3, if_pos c3]
          · rw [if_neg c3, if_neg c3]
            by_cases c4 : at_ W 6 i ≤ 0
            · rw [if_pos c4, if_pos c4]
            · rw [if_neg c4, if_neg c4, td_n (by omega), td_n (by omega), wr_s (z := at_ W 6 k / 2 - at_ W 6 i / 2) (by omega) (by omega), wr_s (z := i_abs (at_ W 6 k / 2 - at_ W 6 i / 2)) (by unfold i_abs; split <;> omega) (by unfold i_abs; split <;> omega)]
              by_cases c5 : i_abs (at_ W 6 k / 2 - at_ W 6 i / 2) = 1
              · rw [if_pos c5, if_pos c5]
              · rw [if_neg c5, if_neg c5]
        · rw [if_neg c2, if_neg c2]) (n := FU) (a := z) hz (FU_big (by omega))
  rw [Int.sub_zero] at q
  exact q
end Near
