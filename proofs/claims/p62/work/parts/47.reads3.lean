section Reads3
variable {S T : St} {W : Vw} {n : Int} {hs : Int → Vw}
theorem F_rev0 (h : PT S 5 W)  {a : Int} (ha : inR a) : lo_FP_revenue_15 7 S FU (a, 0) = some (wr (a + sumR (fun a => if at_ W 6 a ≤ 0 then 0 else at_ W 4 a) 0 (nA W - 0).toNat)) := by
  have b := h.pl.b
  refine lp_sum (body := fun go p0 => lb_FP_revenue_15 7 S go p0.1 p0.2) (fun a => if at_ W 6 a ≤ 0 then 0 else at_ W 4 a) 0 (nA W)
    (fun go a i h0 => by
      show lb_FP_revenue_15 7 S go a i = _
      have e7 : g S 7 7 = nA W := h.pl.mA
      unfold lb_FP_revenue_15
      simp only [e7]
      rw [if_pos (by omega)])
    (fun go a i ha h1 h2 => by
      show lb_FP_revenue_15 7 S go a i = _
      have e7 : g S 7 7 = nA W := h.pl.mA
      have x6 : g S 14 i.toNat = at_ W 6 i := h.pl.a6 ⟨h1, h2⟩
      have x4 : g S 12 i.toNat = at_ W 4 i := h.pl.a4 ⟨h1, h2⟩
      have v := h.v.2.1 i h1 h2
      unfold lb_FP_revenue_15
      simp only [e7, tg_0_3, tg_5_5, tg_7_0, tg_7_1, tg_7_4, tg_7_6, nm_x, bnO_s, wr_s (z := i + 1) (by omega) (by omega), x6, x4]
      rw [if_neg (by omega), if_pos (by omega)]
      repeat' split
      all_goals first | contradiction | (exfalso; omega) | rfl | (rw [Int.add_zero, wr_id ha]) | (exfalso; simp_all; done)) ha (FU_lt (by omega))
theorem F_rvF0 (h : PT S 5 W) {f : Int} (hf : 0 ≤ f) {a : Int} (ha : inR a) : lo_FP_revenueOf_21 0 f 7 S FU (a, 0) = some (wr (a + sumR (fun a => if onF W a f = true then at_ W 4 a else 0) 0 (nA W - 0).toNat)) := by
  have b := h.pl.b
  refine lp_sum (body := fun go p0 => lb_FP_revenueOf_21 0 f 7 S go p0.1 p0.2) (fun a => if onF W a f = true then at_ W 4 a else 0) 0 (nA W)
    (fun go a i h0 => by
      show lb_FP_revenueOf_21 0 f 7 S go a i = _
      have e7 : g S 7 7 = nA W := h.pl.mA
      unfold lb_FP_revenueOf_21
      simp only [e7]
      rw [if_pos (by omega)])
    (fun go a i ha h1 h2 => by
      show lb_FP_revenueOf_21 0 f 7 S go a i = _
      have e7 : g S 7 7 = nA W := h.pl.mA
      have x6 : g S 14 i.toNat = at_ W 6 i := h.pl.a6 ⟨h1, h2⟩
      have x4 : g S 12 i.toNat = at_ W 4 i := h.pl.a4 ⟨h1, h2⟩
      have ef : fn_Plan_formAt 5 (at_ W 6 i) S = some _ := P_formAt h.pl
      have ei := P_formAd h.pl (a := i) (f := f) ⟨h1, h2⟩ hf
      unfold lb_FP_revenueOf_21
      simp only [e7, tg_0_3, tg_5_5, tg_7_0, tg_7_1, tg_7_4, tg_7_6, nm_x, bnO_s, wr_s (z := i + 1) (by omega) (by omega), x6, x4, ef, ei]
      rw [if_neg (by omega), if_pos (by omega)]
      repeat' split
      all_goals first | contradiction | (exfalso; omega) | rfl | (rw [Int.add_zero, wr_id ha]) | (exfalso; simp_all; done)) ha (FU_lt (by omega))
theorem F_rvG0 (h : PT S 5 W) {y : Int} {a : Int} (ha : inR a) : lo_FP_revenueOfGroup_20 y 7 S FU (a, 0) = some (wr (a + sumR (fun a => if at_ W 6 a ≤ 0 then 0 else if at_ W 1 a = y then at_ W 4 a else 0) 0 (nA W - 0).toNat)) := by
  have b := h.pl.b
  refine lp_sum (body := fun go p0 => lb_FP_revenueOfGroup_20 y 7 S go p0.1 p0.2) (fun a => if at_ W 6 a ≤ 0 then 0 else if at_ W 1 a = y then at_ W 4 a else 0) 0 (nA W)
    (fun go a i h0 => by
      show lb_FP_revenueOfGroup_20 y 7 S go a i = _
      have e7 : g S 7 7 = nA W := h.pl.mA
      unfold lb_FP_revenueOfGroup_20
      simp only [e7]
      rw [if_pos (by omega)])
    (fun go a i ha h1 h2 => by
      show lb_FP_revenueOfGroup_20 y 7 S go a i = _
      have e7 : g S 7 7 = nA W := h.pl.mA
      have x6 : g S 14 i.toNat = at_ W 6 i := h.pl.a6 ⟨h1, h2⟩
      have x4 : g S 12 i.toNat = at_ W 4 i := h.pl.a4 ⟨h1, h2⟩
      have x1 : g S 9 i.toNat = at_ W 1 i := h.pl.a1 ⟨h1, h2⟩
      have v := h.v.2.1 i h1 h2
      unfold lb_FP_revenueOfGroup_20
      simp only [e7, tg_0_3, tg_5_5, tg_7_0, tg_7_1, tg_7_4, tg_7_6, nm_x, bnO_s, wr_s (z := i + 1) (by omega) (by omega), x6, x4, x1]
      rw [if_neg (by omega), if_pos (by omega)]
      repeat' split
      all_goals first | contradiction | (exfalso; omega) | rfl | (rw [Int.add_zero, wr_id ha]) | (exfalso; simp_all; done)) ha (FU_lt (by omega))
theorem F_qPr0 (h : PT S 5 W)  {a : Int} (ha : inR a) : lo_FP_quarterPrice_15 0 7 S FU (a, 0) = some (wr (a + sumR (fun a => if at_ W 6 a ≤ 0 then 0 else at_ W 0 a) 0 (nA W - 0).toNat)) := by
  have b := h.pl.b
  refine lp_sum (body := fun go p0 => lb_FP_quarterPrice_15 0 7 S go p0.1 p0.2) (fun a => if at_ W 6 a ≤ 0 then 0 else at_ W 0 a) 0 (nA W)
    (fun go a i h0 => by
      show lb_FP_quarterPrice_15 0 7 S go a i = _
      have e7 : g S 7 7 = nA W := h.pl.mA
      unfold lb_FP_quarterPrice_15
      simp only [e7]
      rw [if_pos (by omega)])
    (fun go a i ha h1 h2 => by
      show lb_FP_quarterPrice_15 0 7 S go a i = _
      have e7 : g S 7 7 = nA W := h.pl.mA
      have x6 : g S 14 i.toNat = at_ W 6 i := h.pl.a6 ⟨h1, h2⟩
      have x0 : g S 8 i.toNat = at_ W 0 i := h.pl.a0 ⟨h1, h2⟩
      have v := h.v.2.1 i h1 h2
      unfold lb_FP_quarterPrice_15
      simp only [e7, tg_0_3, tg_5_5, tg_7_0, tg_7_1, tg_7_4, tg_7_6, nm_x, bnO_s, wr_s (z := i + 1) (by omega) (by omega), x6, x0]
      rw [if_neg (by omega), if_pos (by omega)]
      repeat' split
      all_goals first | contradiction | (exfalso; omega) | rfl | (rw [Int.add_zero, wr_id ha]) | (exfalso; simp_all; done)) ha (FU_lt (by omega))
theorem F_fil0 (h : PT S 5 W)  {a : Int} (ha : inR a) : lo_FP_fill_4 0 S FU (a, 1) = some (wr (a + sumR (fun p => lf W p) 1 (pgs W + 1 - 1).toNat)) := by
  have b := h.pl.b
  refine lp_sum (body := fun go p0 => lb_FP_fill_4 0 S go p0.1 p0.2) (fun p => lf W p) 1 (pgs W + 1)
    (fun go a i h0 => by
      show lb_FP_fill_4 0 S go a i = _
      have e7 : g S 5 1 = pgs W := h.pl.gp
      unfold lb_FP_fill_4
      simp only [tg_0_3, e7]
      rw [if_pos (by omega)])
    (fun go a i ha h1 h2 => by
      show lb_FP_fill_4 0 S go a i = _
      have e7 : g S 5 1 = pgs W := h.pl.gp
      have el : g S 30 i.toNat = lf W i := h.l h1 (by omega)
      unfold lb_FP_fill_4
      simp only [e7, tg_0_3, tg_5_5, tg_7_0, tg_7_1, tg_7_4, tg_7_6, nm_x, bnO_s, wr_s (z := i + 1) (by omega) (by omega), el]
      rw [if_neg (by omega), if_pos (by omega)]
      repeat' split
      all_goals first | contradiction | (exfalso; omega) | rfl | (rw [Int.add_zero, wr_id ha]) | (exfalso; simp_all; done)) ha (FU_lt (by omega))
theorem revB_all : revB W (-1) = wr (sumA W (fun a => if at_ W 6 a ≤ 0 then 0 else at_ W 4 a)) := by
  unfold revB
  congr 1
theorem revB_grp {y : Int} (hy : 0 ≤ y) : revB W y = wr (sumA W (fun a => if at_ W 6 a ≤ 0 then 0 else if at_ W 1 a = y then at_ W 4 a else 0)) := by
  unfold revB
  congr 1
  exact sumR_congr (fun j _ _ => by rw [if_neg (by omega : ¬ y = -1)])
theorem F_revenue (h : PT S 5 W) : fn_FP_revenue 0 S = some (revB W (-1)) := by
  unfold fn_FP_revenue
  rw [tg_0_3, tg_5_0, tg_6_0, F_rev0 h (inRk rfl), bnO_s, Int.zero_add, revB_all, Int.sub_zero]; rfl
def rvOf (W : Vw) (f : Int) : Int := wr (sumA W (fun a => if onF W a f = true then at_ W 4 a else 0))
theorem c_revenueOf (h : PT S 5 W) (hG : Good W) {a : Int} (hi_a : inR a) (c : 0 ≤ a ∧ a < frm W) : fn_FP_revenueOf 0 a S = some (0, rvOf W a) := by
  unfold fn_FP_revenueOf
  rw [F_needForm h, if_pos c, bnO_s, if_pos rfl, tg_0_3, tg_5_0, tg_6_0, F_rvF0 h c.1 (inRk rfl), bnO_s, Int.zero_add, Int.sub_zero]
  rfl
theorem c_revenueOfGroup (h : PT S 5 W) (hG : Good W) {a : Int} (hi_a : inR a) (c : 0 ≤ a ∧ a ≤ 9) : fn_FP_revenueOfGroup 0 a S = some (0, revB W a) := by
  unfold fn_FP_revenueOfGroup
  rw [F_needGroup, if_pos c, bnO_s, if_pos rfl, tg_0_3, tg_5_0, tg_6_0, F_rvG0 h (inRk rfl), bnO_s, Int.zero_add, Int.sub_zero, revB_grp c.1]
  rfl
def sprs (W : Vw) (y : Int) : Int := wr (sumR (fun s => if grp W y s ≤ 0 then 0 else 1) 0 (pgs W / 2 + 1).toNat)
theorem c_spreadsOf (h : PT S 5 W) (hG : Good W) {a : Int} (hi_a : inR a) (c : 0 ≤ a ∧ a ≤ 9) : fn_FP_spreadsOf 0 a S = some (0, sprs W a) := by
  have b0 := h.pl.b
  unfold fn_FP_spreadsOf
  rw [F_needGroup, if_pos c, bnO_s, if_pos rfl]
  have q : lo_FP_spreadsOf_8 0 a S FU (0, 0) = _ := lp_sum (body := fun go p0 => lb_FP_spreadsOf_8 0 a S go p0.1 p0.2) (fun s => if grp W a s ≤ 0 then 0 else 1) 0 (pgs W / 2 + 1)
    (fun go z i hi => by
      show lb_FP_spreadsOf_8 0 a S go z i = _
      have e7 : g S 5 1 = pgs W := h.pl.gp
      unfold lb_FP_spreadsOf_8
      rw [tg_0_3, e7, nm_x, td_n (by omega), wr_s (by omega) (by omega), if_pos (by omega)])
    (fun go z i hz h1 h2 => by
      show lb_FP_spreadsOf_8 0 a S go z i = _
      have e7 : g S 5 1 = pgs W := h.pl.gp
      have eg : g S 32 (a * 33 + i).toNat = grp W a i := h.gr c ⟨h1, by omega⟩
      unfold lb_FP_spreadsOf_8
      rw [tg_0_3, e7, nm_x, td_n (by omega), wr_s (by omega) (by omega), if_neg (by omega), if_pos (by omega : 0 ≤ a * 33 + i ∧ a * 33 + i < 330), tg_5_7, eg, nm_x, nm_x, nm_x, wr_s (z := i + 1) (by omega) (by omega)]
      by_cases d : grp W a i ≤ 0
      · rw [if_pos d, if_pos d, Int.add_zero, wr_id hz]
      · rw [if_neg d, if_neg d]) (a := 0) (inRk rfl) (FU_lt (by omega))
  rw [q, bnO_s, Int.zero_add, Int.sub_zero]; rfl
def emRn (W : Vw) (a : Int) : Int ⊕ Unit := runR (fun i (r : Int) => if lf W i = 4 then r + 1 else 0) (fun i r => if (if lf W i = 4 then r + 1 else 0) = a then some (.inl (wr (i - a + 1))) else none) (fun _ => (.inr () : Int ⊕ Unit)) 1 (pgs W).toNat 0
theorem c_emptyRun (h : PT S 5 W) (hG : Good W) {a : Int} (hi_a : inR a) (c : 1 ≤ a ∧ a ≤ 64) : fn_FP_emptyRun 0 a S = some (0, getI (emRn W a)) := by
  have b0 := h.pl.b
  unfold fn_FP_emptyRun
  rw [if_neg (by omega), if_pos c.2]
  have q : lo_FP_emptyRun_26 0 a S FU (0, 1) = some (emRn W a) := by
    have q0 := lp_run (body := fun go p0 => lb_FP_emptyRun_26 0 a S go p0.1 p0.2) (fun i (r : Int) => (r, i)) (fun i (r : Int) => if lf W i = 4 then r + 1 else 0) (fun i r => if (if lf W i = 4 then r + 1 else 0) = a then some (.inl (wr (i - a + 1))) else none) (fun _ => (.inr () : Int ⊕ Unit)) (fun i (r : Int) => 1 ≤ i ∧ 0 ≤ r ∧ r < i) (pgs W + 1)
      (fun go i z _ hi => by
        show lb_FP_emptyRun_26 0 a S go z i = _
        have e7 : g S 5 1 = pgs W := h.pl.gp
        unfold lb_FP_emptyRun_26
        rw [tg_0_3, e7, if_pos (by omega)])
      (fun go i z hI hi => by
        refine ⟨?_, fun _ => by split <;> omega⟩
        show lb_FP_emptyRun_26 0 a S go z i = _
        have e7 : g S 5 1 = pgs W := h.pl.gp
        have el : g S 30 i.toNat = lf W i := h.l hI.1 (by omega)
        unfold lb_FP_emptyRun_26
        rw [tg_0_3, e7, if_neg (by omega), if_pos (by omega : 0 ≤ i ∧ i < 65), tg_5_5, el, nm_x, nm_x, wr_s (z := i + 1) (by omega) (by omega)]
        by_cases d : lf W i = 4
        · rw [if_pos d, if_pos d, wr_s (z := z + 1) (by omega) (by omega)]
          by_cases d2 : z + 1 = a
          · rw [if_pos d2, if_pos d2]
          · rw [if_neg d2, if_neg d2]
        · rw [if_neg d, if_neg d]
          by_cases d2 : 0 = a
          · rw [if_pos d2, if_pos d2]
          · rw [if_neg d2, if_neg d2]; rfl) (pgs W).toNat FU 1 0 ⟨by omega, by omega, by omega⟩ (by omega) (FU_lt (by omega))
    exact q0
  rw [q]
  cases emRn W a <;> rfl
end Reads3

