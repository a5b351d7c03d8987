/-! fill and quarterPrice -/
section Quot
variable {S T : St} {W : Vw} {n : Int} {hs : Int → Vw}
theorem fil_sum : sumP W (fun p => 4 - lf W p) = 4 * (((pgs W).toNat : Nat) : Int) - sumR (fun p => lf W p) 1 (pgs W).toNat := by
  unfold sumP
  have q : ∀ (m : Nat) (i : Int), sumR (fun p => 4 - lf W p) i m = 4 * (m : Int) - sumR (fun p => lf W p) i m := by
    intro m
    induction m with
    | zero => intro i; rfl
    | succ m ih =>
      intro i
      show (4 - lf W i) + sumR (fun p => 4 - lf W p) (i + 1) m = 4 * ((m + 1 : Nat) : Int) - (lf W i + sumR (fun p => lf W p) (i + 1) m)
      rw [ih (i + 1)]
      omega
  exact q _ _
def filN (W : Vw) : Int := 4 * pgs W - sumR (fun p => lf W p) 1 (pgs W).toNat
theorem filN_bd (hG : Good W) : 0 ≤ filN W ∧ filN W ≤ 4 * pgs W := by
  have b := hG.1.pg
  have q := sumR_bd (w := fun p => lf W p) (l := 0) (h := 4) (n := (pgs W).toNat) (i := 1) (fun j h1 h2 => lf_bd hG.1 hG.2.1 h1 (by omega))
  unfold filN
  omega
theorem ok_fill (hI : Inv S) : ∃ r S2, fn_FP_fill 0 S = some r ∧ fn_Mo_fill 514 S = some (r, S2) ∧ Inv S2 := by
  obtain ⟨W, n, hs, hG, hH, hP⟩ := hI
  have h := hP.1.1
  have hM1 : MV (u S 514 4 0) W := hP.1.2.thr
  have b := hG.1.pg
  have fb := filN_bd hG
  have e1 : g S 5 1 = pgs W := h.pl.gp
  have d := div_nn (a := filN W) (b := 4 * pgs W) (by omega) (by omega)
  have ef : wr (0 + sumR (fun p => lf W p) 1 (pgs W + 1 - 1).toNat) = sumR (fun p => lf W p) 1 (pgs W).toNat := by
    rw [Int.zero_add, show pgs W + 1 - 1 = pgs W by omega]
    unfold filN at fb
    exact wr_s (by omega) (by omega)
  have em : wr (0 + sumP W (fun p => 4 - lf W p)) = filN W := by
    rw [Int.zero_add, fil_sum, show (((pgs W).toNat : Nat) : Int) = pgs W by omega]
    exact wr_s (by unfold filN at fb; omega) (by unfold filN at fb; omega)
  refine ⟨FP.ddiv (i_d (filN W)) (i_d (4 * pgs W)), u S 514 4 0, ?_, ?_, W, n, hs, hG, hH, hP.thr⟩
  · unfold fn_FP_fill
    rw [F_fil0 h (inRk rfl), bnO_s, ef, tg_0_3, e1, nm_x, wr_s (z := 4 * pgs W) (by omega) (by omega), if_neg (by omega)]
    show (if FP.ddiv (i_d (filN W)) (i_d (4 * pgs W)) &&& 0x7fffffffffffffff ≤ 0x7ff0000000000000 then _ else _) = _
    rw [if_pos d]
    rfl
  · unfold fn_Mo_fill
    rw [nm_x, Mo_fil0 hM1 (inRk rfl), bnO_s, Mo_pageMany hM1, bnO_s, em, if_pos d]
def qpN (W : Vw) : Int := sumA W (fun a => if at_ W 6 a ≤ 0 then 0 else at_ W 0 a)
theorem qpN_bd (hG : Good W) : 0 ≤ qpN W ∧ qpN W ≤ 160 := by
  have q := sumR_bd (w := fun a => if at_ W 6 a ≤ 0 then 0 else at_ W 0 a) (l := 0) (h := 4) (n := (nA W).toNat) (i := 0) (fun j h1 h2 => by
    have v := hG.1.2.1 j h1 (by omega)
    show 0 ≤ (if at_ W 6 j ≤ 0 then 0 else at_ W 0 j) ∧ (if at_ W 6 j ≤ 0 then 0 else at_ W 0 j) ≤ 4
    split <;> omega)
  have b := hG.1.1.1
  unfold qpN sumA
  omega
theorem rev_bd (hG : Good W) : 0 ≤ revB W (-1) ∧ revB W (-1) < 100000 := by
  have q := sumR_bd (w := fun a => if at_ W 6 a ≤ 0 then 0 else at_ W 4 a) (l := 0) (h := 999) (n := (nA W).toNat) (i := 0) (fun j h1 h2 => by
    have v := hG.1.2.1 j h1 (by omega)
    show 0 ≤ (if at_ W 6 j ≤ 0 then 0 else at_ W 4 j) ∧ (if at_ W 6 j ≤ 0 then 0 else at_ W 4 j) ≤ 999
    split <;> omega)
  have b := hG.1.1.1
  rw [revB_all]
  unfold sumA
  rw [wr_s (by omega) (by omega)]
  omega
theorem uD_off {x : UInt64} : Off S (uD S 525 0 x) 524 526 := by
  intro a ha
  refine ⟨rfl, rfl, ?_⟩
  funext f'
  exact uD_ne (fun q => by omega)
theorem ok_quarterPrice (hI : Inv S) : ∃ e S1 r S2, fn_Law_quarterPrice 0 525 S = some (e, S1) ∧ fn_Mo_quarterPrice 514 S1 = some (r, S2) ∧ g S2 514 4 = e ∧ (e = 0 → S2.2.2 525 0 = r) ∧ Inv S2 := by
  obtain ⟨W, n, hs, hG, hH, hP⟩ := hI
  have h := hP.1.1
  have qb := qpN_bd hG
  have rb := rev_bd hG
  have ef : wr (0 + sumR (fun a => if at_ W 6 a ≤ 0 then 0 else at_ W 0 a) 0 (nA W - 0).toNat) = qpN W := by
    rw [Int.zero_add, Int.sub_zero]
    exact wr_s (by unfold qpN sumA at qb; omega) (by unfold qpN sumA at qb; omega)
  have em : wr (0 + sumA W (fun a => if at_ W 6 a ≤ 0 then 0 else at_ W 0 a)) = qpN W := by
    rw [Int.zero_add]
    exact wr_s (by unfold qpN at qb; omega) (by unfold qpN at qb; omega)
  have eC : lo_FP_quarterPrice_15 0 (tgt (tgt (tgt 0 3) 0) 0) S FU (0, 0) = some (qpN W) := by
    rw [tg_0_3, tg_5_0, tg_6_0, F_qPr0 h (inRk rfl), ef]
  by_cases c : qpN W = 0
  · refine ⟨1, S, 0, u (u S 514 4 0) 514 4 1, ?_, ?_, ?_, fun q => by omega, W, n, hs, hG, hH, hP.thr.thr⟩
    · unfold fn_Law_quarterPrice fn_FP_quarterPrice
      rw [eC, bnO_s, if_pos c]; rfl
    · have hM1 : MV (u S 514 4 0) W := hP.1.2.thr
      unfold fn_Mo_quarterPrice
      rw [nm_x, Mo_qPr0 hM1 (inRk rfl), bnO_s, em, if_pos c, Mo_thr1, bnO_s, if_pos rfl]
    · rw [g_eq]; exact wr_s (by decide) (by decide)
  · have d := div_nn (a := revB W (-1)) (b := qpN W) (by omega) (by omega)
    have hP1 := hP.out (S' := uD S 525 0 (FP.ddiv (i_d (revB W (-1))) (i_d (qpN W)))) uD_off
    refine ⟨0, uD S 525 0 (FP.ddiv (i_d (revB W (-1))) (i_d (qpN W))), FP.ddiv (i_d (revB W (-1))) (i_d (qpN W)), u (uD S 525 0 (FP.ddiv (i_d (revB W (-1))) (i_d (qpN W)))) 514 4 0, ?_, ?_, ?_, fun _ => uD_at, W, n, hs, hG, hH, hP1.thr⟩
    · unfold fn_Law_quarterPrice fn_FP_quarterPrice
      rw [eC, bnO_s, if_neg c, F_revenue h, bnO_s, if_pos d]; rfl
    · have hM1 : MV (u (uD S 525 0 (FP.ddiv (i_d (revB W (-1))) (i_d (qpN W)))) 514 4 0) W := hP1.1.2.thr
      unfold fn_Mo_quarterPrice
      rw [nm_x, Mo_qPr0 hM1 (inRk rfl), bnO_s, em, if_neg c, Mo_thr0, bnO_s, if_neg Bool.false_ne_true, Mo_revenueBy hM1, bnO_s, if_pos d]
    · rw [g_eq]; exact wr_s (by decide) (by decide)
end Quot
