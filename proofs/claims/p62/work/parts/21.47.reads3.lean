section Reads3
variable {S T : St} {W : Vw} {n : Int} {hs : Int → Vw}
theorem F_rev0 (h : PT S 5 W)  {a : Int} (ha : inR a) : lo_FP_revenue_15 7 S FU (a, 0) = some (wr (a + sumR (fun a => if at_ W 6 a ≤ 0 then 0 else at_ W 4 a) 0 (nA W - 0).toNat)) := by
  have b := h.pl.b
  refine lp_sum (body := fun go p0 => lb_FP_revenue_15 7 S go p0.1 p0.2) (fun a => if at_ W 6 a ≤ 0 then 0 else at_ W 4 a) 0 (nA W)
    (fun go a i h0 => by
      show lb_FP_revenue_15 7 S go a i = _
      have e7 : g S 7 7 = nA W := h.pl.mA
      unfold lb_FP_revenue_15
      simp only [e7]
      rw [if_pos (by omega)])
    (fun go a i ha h1 h2 => by
      show lb_FP_revenue_15 7 S go a i = _
      have e7 : g S 7 7 = nA W := h.pl.mA
      have x6 : g S 14 i.toNat = at_ W 6 i := h.pl.a6 ⟨h1, h2⟩
      have x4 : g S 12 i.toNat = at_ W 4 i := h.pl.a4 ⟨h1, h2⟩
      have v := h.v.2.1 i h1 h2
      unfold lb_FP_revenue_15
      simp only [e7, tg_0_3, tg_5_5, tg_7_0, tg_7_1, tg_7_4, tg_7_6, nm_x, bnO_s, wr_s (z := i + 1) (by omega) (by omega), x6, x4]
      rw [if_neg (by omega), if_pos (by omega)]
      repeat' split
      all_goals first | contradiction | (exfalso; omega) | rfl | (rw [Int.add_zero, wr_id ha]) | (exfalso; simp_all; done)) ha (FU_lt (by omega))
theorem F_rvF0 (h : PT S 5 W) {f : Int} (hf : 0 ≤ f) {a : Int} (ha : inR a) : lo_FP_revenueOf_21 0 f 7 S FU (a, 0) = some (wr (a + sumR (fun a => if onF W a f = true then at_ W 4 a else 0) 0 (nA W - 0).toNat)) := by
  have b := h.pl.b
  refine lp_sum (body := fun go p0 => lb_FP_revenueOf_21 0 f 7 S go p0.1 p0.2) (fun a => if onF W a f = true then at_ W 4 a else 0) 0 (nA W)
    (fun go a i h0 => by
      show lb_FP_revenueOf_21 0 f 7 S go a i = _
      have e7 : g S 7 7 = nA W := h.pl.mA
      unfold lb_FP_revenueOf_21
      simp only [e7]
      rw [if_pos (by omega)])
    (fun go a i ha h1 h2 => by
      show lb_FP_revenueOf_21 0 f 7 S go a i = _
      have e7 : g S 7 7 = nA W := h.pl.mA
      have x6 : g S 14 i.toNat = at_ W 6 i := h.pl.a6 ⟨h1, h2⟩
      have x4 : g S 12 i.toNat = at_ W 4 i := h.pl.a4 ⟨h1, h2⟩
      have ef : fn_Plan_formAt 5 (at_ W 6 i) S = some _ := P_formAt h.pl
      have ei := P_formAd h.pl (a := i) (f := f) ⟨h1, h2⟩ hf
      unfold lb_FP_revenueOf_21
      simp only [e7, tg_0_3, tg_5_5, tg_7_0, tg_7_1, tg_7_4, tg_7_6, nm_x, bnO_s, wr_s (z := i + 1) (by omega) (by omega), x6, x4, ef, ei]
      rw [if_neg (by omega), if_pos (by omega)]
      repeat' split
      all_goals first | contradiction | (exfalso; omega) | rfl | (rw [Int.add_zero, wr_id ha]) | (exfalso; simp_all; done)) ha (FU_lt (by omega))
theorem F_rvG0 (h : PT S 5 W) {y : Int} {a : Int} (ha : inR a) : lo_FP_revenueOfGroup_20 y 7 S FU (a, 0) = some (wr (a + sumR (fun a => if at_ W 6 a ≤ 0 then 0 else if at_ W 1 a = y then at_ W 4 a else 0) 0 (nA W - 0).toNat)) := by
  have b := h.pl.b
  refine lp_sum (body := fun go p0 => lb_FP_revenueOfGroup_20 y 7 S go p0.1 p0.2) (fun a => if at_ W 6 a ≤ 0 then 0 else if at_ W 1 a = y then at_ W 4 a else 0) 0 (nA W)
    (fun go a i h0 => by
      show lb_FP_revenueOfGroup_20 y 7 S go a i = _
      have e7 : g S 7 7 = nA W := h.pl.mA
      unfold lb_FP_revenueOfGroup_20
      simp only [e7]
      rw [if_pos (by omega)])
    (fun go a i ha h1 h2 => by
      show lb_FP_revenueOfGroup_20 y 7 S go a i = _
      have e7 : g S 7 7 = nA W := h.pl.mA
      have x6 : g S 14 i.toNat = at_ W 6 i := h.pl.a6 ⟨h1, h2⟩
      have x4 : g S 12 i.toNat = at_ W 4 i := h.pl.a4 ⟨h1, h2⟩
      have x1 : g S 9 i.toNat = at_ W 1 i := h.pl.a1 ⟨h1, h2⟩
      have v := h.v.2.1 i h1 h2
      unfold lb_FP_revenueOfGroup_20
      simp only [e7, tg_0_3, tg_5_5, tg_7_0, tg_7_1, tg_7_4, tg_7_6, nm_x, bnO_s, wr_s (z := i + 1) (by omega) (by omega), x6, x4, x1]
      rw [if_neg (by omega), if_pos (by omega)]
      repeat' split
      all_goals first | contradiction | (exfalso; omega) | rfl | (rw [Int.add_zero, wr_id ha]) | (exfalso; simp_all; done)) ha (FU_lt (by omega))
theorem F_qPr0 (h : PT S 5 W)  {a : Int} (ha : inR a) : lo_FP_quarterPrice_15 0 7 S FU (a, 0) = some (wr (a + sumR (fun a => if at_ W 6 a ≤ 0 then 0 else at_ W 0 a) 0 (nA W - 0).toNat)) := by
  have b := h.pl.b
  refine lp_sum (body := fun go p0 => lb_FP_quarterPrice_15 0 7 S go p0.1 p0.2) (fun a => if at_ W 6 a ≤ 0 then 0 else at_ W 0 a) 0 (nA W)
    (fun go a i h0 => by
      show lb_FP_quarterPrice_15 0 7 S go a i = _
      have e7 : g S 7 7 = nA W := h.pl.mA
      unfold lb_FP_quarterPrice_15
      simp only [e7]
      rw [if_pos (by omega)])
    (fun go a i ha h1 h2 => by
      show lb_FP_quarterPrice_15 0 7 S go a i = _
      have e7 : g S 7 7 = nA W := h.pl.mA
      have x6 : g S 14 i.toNat = at_ W 6 i := h.pl.a6 ⟨h1, h2⟩
      have x0 : g S 8 i.toNat = at_ W 0 i := h.pl.a0 ⟨h1, h2⟩
      have v := h.v.2.1 i h1 h2
      unfold lb_FP_quarterPrice_15
      simp only [e7, tg_0_3, tg_5_5, tg_7_0, tg_7_1, tg_7_4, tg_7_6, nm_x, bnO_s, wr_s (z := i + 1) (by omega) (by omega), x6, x0]
      rw [if_neg (by omega), if_pos (by omega)]
      repeat' split
      all_goals first | contradiction | (exfalso; omega) | rfl | (rw [Int.add_zero, wr_id ha]) | (exfalso; simp_all; done)) ha (FU_lt (by omega))
theorem F_fil0 (h : PT S 5 W)  {a : Int} (ha : inR a) : lo_FP_fill_4 0 S FU (a, 1) = some (wr (a + sumR (fun p => lf W p) 1 (pgs W + 1 - 1).toNat)) := by
  have b := h.pl.b
  refine lp_sum (body := fun go p0 => lb_FP_fill_4 0 S go p0.1 p0.2) (fun p => lf W p) 1 (pgs W + 1)
    (fun go a i h0 => by
      show lb_FP_fill_4 0 S go a i = _
      have e7 : g S 5 1 = pgs W := h.pl.gp
      unfold lb_FP_fill_4
      simp only [tg_0_3, e7]
      rw [if_pos (by omega)])
    (fun go a i ha h1 h2 => by
      show lb_FP_fill_4 0 S go a i = _
      have e7 : g S 5 1 = pgs W := h.pl.gp
      have el : g S 30 i.toNat = lf W i := h.l h1 (by omega)
      unfold lb_FP_fill_4
      simp only [e7, tg_0_3, tg_5_5, tg_7_0, tg_7_1, tg_7_4, tg_7_6, nm_x, bnO_s, wr_s (z := i + 1) (by omega) (by omega), el]
      rw [if_neg (by omega), if_pos (by omega)]
      repeat' split
      all_goals first | contradiction | (exfalso; omega) | rfl | (rw [Int.add_zero, wr_id ha]) | (exfalso; simp_all; done)) ha (FU_lt (by omega))
theorem revB_all : revB W (-1) = wr (sumA W (fun a => if at_ W 6 a ≤ 0 then 0 else at_ W 4 a)) := by
  unfold revB
  congr 1
theorem revB_grp {y : Int} (hy : 0 ≤ y) : revB W y = wr (sumA W (fun a => if at_ W 6 a ≤ 0 then 0 else if at_ W 1 a = y then at_ W 4 a else 0)) := by
  unfold revB
  congr 1
  exact sumR_congr (fun j _ _ => by rw [if_neg (by omega : ¬ y = -1)])
theorem F_revenue (h : PT S 5 W) : fn_FP_revenue 0 S = some (revB W (-1)) := by
  unfold fn_FP_revenue
  rw [tg_0_3, tg_5_0, tg_6_0, F_rev0 h (inRk rfl), bnO_s, Int.zero_add, revB_all, Int.sub_zero]; rfl
theorem ok_revenue (hI : Inv S)   : ∃ r S2, fn_FP_revenue 0 S = some r ∧ fn_Mo_revenue 514 S = some (r, S2) ∧ Inv S2 := by
  obtain ⟨W, n, hs, hG, hH, hP⟩ := hI
  have h := hP.1.1
  have hM := hP.1.2
  have hM1 : MV (u S 514 4 0) W := hM.thr
  have b := hM.b
  refine ⟨revB W (-1), u S 514 4 0, ?_, ?_, W, n, hs, hG, hH, hP.thr⟩
  · unfold fn_FP_revenue
    have q :=  F_revenue h
    unfold fn_FP_revenue at q
    exact q
  · unfold fn_Mo_revenue
    rw [nm_x]
    rw [Mo_revenueBy hM1, bnO_s]
def rvOf (W : Vw) (f : Int) : Int := wr (sumA W (fun a => if onF W a f = true then at_ W 4 a else 0))
theorem c_revenueOf (h : PT S 5 W) (hG : Good W) {a : Int} (hi_a : inR a) (c : 0 ≤ a ∧ a < frm W) : fn_FP_revenueOf 0 a S = some (0, rvOf W a) := by
  unfold fn_FP_revenueOf
  rw [F_needForm h, if_pos c, bnO_s, if_pos rfl, tg_0_3, tg_5_0, tg_6_0, F_rvF0 h c.1 (inRk rfl), bnO_s, Int.zero_add, Int.sub_zero]
  rfl
theorem m_revenueOf (hM : MV T W) (hG : Good W) {a : Int} (hi_a : inR a) (c : 0 ≤ a ∧ a < frm W) : fn_Mo_revenueOf 514 a T = some (rvOf W a, u T 514 4 0) := by
  have hM1 : MV (u T 514 4 0) W := hM.thr
  have b := hM.b
  have eA : fn_Mo_isForm 514 a (u T 514 4 0) = some true := by rw [Mo_isForm hM1, decide_eq_true c]
  unfold fn_Mo_revenueOf
  simp only [nm_x, eA, bnO_s, Mo_thr0, if_true, if_false, Bool.false_eq_true]
  rw [Mo_rvF0 hM1 (inRk rfl), bnO_s, Int.zero_add]
  rfl
theorem ok_revenueOf (hI : Inv S) {a : Int} (hi_a : inR a) : ∃ e S1 r S2, fn_Law_revenueOf 0 a 524 S = some (e, S1) ∧ fn_Mo_revenueOf 514 a S1 = some (r, S2) ∧ Fin S2 e r := by
  obtain ⟨W, n, hs, hG, hH, hP⟩ := hI
  have h := hP.1.1
  by_cases c : 0 ≤ a ∧ a < frm W
  · have hv : inR (rvOf W a) := by
      exact wr_in _
    refine ⟨0, ul S 524 0 (rvOf W a), rvOf W a, _, ?_, m_revenueOf (hP.out (Off.wtl (by omega) (by omega))).1.2 hG hi_a c, fin0 hG hH hP hv⟩
    unfold fn_Law_revenueOf
    rw [c_revenueOf h hG hi_a c]; rfl
  · refine ⟨1, S, 0, u (u S 514 4 0) 514 4 1, ?_, ?_, fin1 hG hH hP (.inl rfl)⟩
    · unfold fn_Law_revenueOf fn_FP_revenueOf
      rw [F_needForm h, if_neg c]; rfl
    · have hM1 : MV (u S 514 4 0) W := hP.1.2.thr
      have eA : fn_Mo_isForm 514 a (u S 514 4 0) = some false := by rw [Mo_isForm hM1, decide_eq_false c]
      unfold fn_Mo_revenueOf
      simp only [nm_x, eA, bnO_s, Mo_thr1, if_true, if_false, Bool.false_eq_true]
theorem c_revenueOfGroup (h : PT S 5 W) (hG : Good W) {a : Int} (hi_a : inR a) (c : 0 ≤ a ∧ a ≤ 9) : fn_FP_revenueOfGroup 0 a S = some (0, revB W a) := by
  unfold fn_FP_revenueOfGroup
  rw [F_needGroup, if_pos c, bnO_s, if_pos rfl, tg_0_3, tg_5_0, tg_6_0, F_rvG0 h (inRk rfl), bnO_s, Int.zero_add, Int.sub_zero, revB_grp c.1]
  rfl
theorem m_revenueOfGroup (hM : MV T W) (hG : Good W) {a : Int} (hi_a : inR a) (c : 0 ≤ a ∧ a ≤ 9) : fn_Mo_revenueOfGroup 514 a T = some (revB W a, u T 514 4 0) := by
  have hM1 : MV (u T 514 4 0) W := hM.thr
  have b := hM.b
  have eA : fn_Mo_inRange a 0 9 (u T 514 4 0) = some true := by rw [Mo_inRange, decide_eq_true c]
  unfold fn_Mo_revenueOfGroup
  simp only [nm_x, eA, bnO_s, Mo_thr0, if_true, if_false, Bool.false_eq_true, Mo_revenueBy hM1]
theorem ok_revenueOfGroup (hI : Inv S) {a : Int} (hi_a : inR a) : ∃ e S1 r S2, fn_Law_revenueOfGroup 0 a 524 S = some (e, S1) ∧ fn_Mo_revenueOfGroup 514 a S1 = some (r, S2) ∧ Fin S2 e r := by
  obtain ⟨W, n, hs, hG, hH, hP⟩ := hI
  have h := hP.1.1
  by_cases c : 0 ≤ a ∧ a ≤ 9
  · have hv : inR (revB W a) := by
      exact wr_in _
    refine ⟨0, ul S 524 0 (revB W a), revB W a, _, ?_, m_revenueOfGroup (hP.out (Off.wtl (by omega) (by omega))).1.2 hG hi_a c, fin0 hG hH hP hv⟩
    unfold fn_Law_revenueOfGroup
    rw [c_revenueOfGroup h hG hi_a c]; rfl
  · refine ⟨1, S, 0, u (u S 514 4 0) 514 4 1, ?_, ?_, fin1 hG hH hP (.inl rfl)⟩
    · unfold fn_Law_revenueOfGroup fn_FP_revenueOfGroup
      rw [F_needGroup, if_neg c]; rfl
    · have hM1 : MV (u S 514 4 0) W := hP.1.2.thr
      have eA : fn_Mo_inRange a 0 9 (u S 514 4 0) = some false := by rw [Mo_inRange, decide_eq_false c]
      unfold fn_Mo_revenueOfGroup
      simp only [nm_x, eA, bnO_s, Mo_thr1, if_true, if_false, Bool.false_eq_true]
def sprs (W : Vw) (y : Int) : Int := wr (sumR (fun s => if grp W y s ≤ 0 then 0 else 1) 0 (pgs W / 2 + 1).toNat)
theorem c_spreadsOf (h : PT S 5 W) (hG : Good W) {a : Int} (hi_a : inR a) (c : 0 ≤ a ∧ a ≤ 9) : fn_FP_spreadsOf 0 a S = some (0, sprs W a) := by
  have b0 := h.pl.b
  unfold fn_FP_spreadsOf
  rw [F_needGroup, if_pos c, bnO_s, if_pos rfl]
  have q : lo_FP_spreadsOf_8 0 a S FU (0, 0) = _ := lp_sum (body := fun go p0 => lb_FP_spreadsOf_8 0 a S go p0.1 p0.2) (fun s => if grp W a s ≤ 0 then 0 else 1) 0 (pgs W / 2 + 1)
    (fun go z i hi => by
      show lb_FP_spreadsOf_8 0 a S go z i = _
      have e7 : g S 5 1 = pgs W := h.pl.gp
      unfold lb_FP_spreadsOf_8
      rw [tg_0_3, e7, nm_x, td_n (by omega), wr_s (by omega) (by omega), if_pos (by omega)])
    (fun go z i hz h1 h2 => by
      show lb_FP_spreadsOf_8 0 a S go z i = _
      have e7 : g S 5 1 = pgs W := h.pl.gp
      have eg : g S 32 (a * 33 + i).toNat = grp W a i := h.gr c ⟨h1, by omega⟩
      unfold lb_FP_spreadsOf_8
      rw [tg_0_3, e7, nm_x, td_n (by omega), wr_s (by omega) (by omega), if_neg (by omega), if_pos (by omega : 0 ≤ a * 33 + i ∧ a * 33 + i < 330), tg_5_7, eg, nm_x, nm_x, nm_x, wr_s (z := i + 1) (by omega) (by omega)]
      by_cases d : grp W a i ≤ 0
      · rw [if_pos d, if_pos d, Int.add_zero, wr_id hz]
      · rw [if_neg d, if_neg d]) (a := 0) (inRk rfl) (FU_lt (by omega))
  rw [q, bnO_s, Int.zero_add, Int.sub_zero]; rfl
theorem m_spreadsOf (hM : MV T W) (hG : Good W) {a : Int} (hi_a : inR a) (c : 0 ≤ a ∧ a ≤ 9) : fn_Mo_spreadsOf 514 a T = some (sprs W a, u T 514 4 0) := by
  have hM1 : MV (u T 514 4 0) W := hM.thr
  have b := hM.b
  have eA : fn_Mo_inRange a 0 9 (u T 514 4 0) = some true := by rw [Mo_inRange, decide_eq_true c]
  unfold fn_Mo_spreadsOf
  simp only [nm_x, eA, bnO_s, Mo_thr0, if_true, if_false, Bool.false_eq_true]
  have q : lo_Mo_spreadsOf_36 514 a (u T 514 4 0) FU (0, 0) = _ := lp_sum (body := fun go p0 => lb_Mo_spreadsOf_36 514 a (u T 514 4 0) go p0.1 p0.2) (fun s => if grp W a s ≤ 0 then 0 else 1) 0 (pgs W / 2 + 1)
    (fun go z i hi => by
      show lb_Mo_spreadsOf_36 514 a (u T 514 4 0) go z i = _
      unfold lb_Mo_spreadsOf_36
      rw [Mo_pageMany hM1, bnO_s, nm_x, td_n (by omega), wr_s (by omega) (by omega), if_pos (by omega)])
    (fun go z i hz h1 h2 => by
      show lb_Mo_spreadsOf_36 514 a (u T 514 4 0) go z i = _
      unfold lb_Mo_spreadsOf_36
      rw [Mo_pageMany hM1, bnO_s, nm_x, td_n (by omega), wr_s (z := pgs W / 2) (by omega) (by omega), if_neg (by omega), Mo_ofGroupOn hM1, bnO_s, nm_x, nm_x, nm_x, nm_x, wr_s (z := i + 1) (by omega) (by omega)]
      by_cases d : grp W a i ≤ 0
      · rw [if_pos d, if_pos d]
      · rw [if_neg d, if_neg d]) (a := 0) (inRk rfl) (FU_lt (by omega))
  rw [q, bnO_s, Int.zero_add, Int.sub_zero]; rfl
theorem ok_spreadsOf (hI : Inv S) {a : Int} (hi_a : inR a) : ∃ e S1 r S2, fn_Law_spreadsOf 0 a 524 S = some (e, S1) ∧ fn_Mo_spreadsOf 514 a S1 = some (r, S2) ∧ Fin S2 e r := by
  obtain ⟨W, n, hs, hG, hH, hP⟩ := hI
  have h := hP.1.1
  by_cases c : 0 ≤ a ∧ a ≤ 9
  · have hv : inR (sprs W a) := by
      exact wr_in _
    refine ⟨0, ul S 524 0 (sprs W a), sprs W a, _, ?_, m_spreadsOf (hP.out (Off.wtl (by omega) (by omega))).1.2 hG hi_a c, fin0 hG hH hP hv⟩
    unfold fn_Law_spreadsOf
    rw [c_spreadsOf h hG hi_a c]; rfl
  · refine ⟨1, S, 0, u (u S 514 4 0) 514 4 1, ?_, ?_, fin1 hG hH hP (.inl rfl)⟩
    · unfold fn_Law_spreadsOf fn_FP_spreadsOf
      rw [F_needGroup, if_neg c]; rfl
    · have hM1 : MV (u S 514 4 0) W := hP.1.2.thr
      have eA : fn_Mo_inRange a 0 9 (u S 514 4 0) = some false := by rw [Mo_inRange, decide_eq_false c]
      unfold fn_Mo_spreadsOf
      simp only [nm_x, eA, bnO_s, Mo_thr1, if_true, if_false, Bool.false_eq_true]
theorem ok_groupOn (hI : Inv S) {a y : Int} (hi_a : inR a) (hi_y : inR y) : ∃ e S1 r S2, fn_Law_groupOn 0 a y 524 S = some (e, S1) ∧ fn_Mo_groupOn 514 a y S1 = some (r, S2) ∧ Fin S2 e r := by
  obtain ⟨W, n, hs, hG, hH, hP⟩ := hI
  have h := hP.1.1
  have b := h.pl.b
  have e7 : g S 5 1 = pgs W := h.pl.gp
  by_cases c : 0 ≤ a ∧ a ≤ 9
  · by_cases d : 0 ≤ y ∧ y ≤ pgs W / 2
    · have hv := (grp_cnt h.v (y := a) (s := y)).2
      have eg : g S 32 (a * 33 + y).toNat = grp W a y := h.gr c ⟨d.1, by omega⟩
      refine ⟨0, ul S 524 0 (grp W a y), grp W a y, u (ul S 524 0 (grp W a y)) 514 4 0, ?_, ?_, fin0 hG hH hP ⟨by omega, by omega⟩⟩
      · have : fn_FP_groupOn 0 a y S = some (0, grp W a y) := by
          unfold fn_FP_groupOn
          rw [F_needGroup, if_pos c, bnO_s, if_pos rfl, if_neg (by omega), tg_0_3, e7, nm_x, td_n (by omega), wr_s (by omega) (by omega), if_pos d.2, if_pos (by omega : 0 ≤ a * 33 + y ∧ a * 33 + y < 330), tg_5_7, eg]
        unfold fn_Law_groupOn
        rw [this]; rfl
      · have hM1 : MV (u (ul S 524 0 (grp W a y)) 514 4 0) W := ((hP.out (Off.wtl (by omega) (by omega))).1.2).thr
        unfold fn_Mo_groupOn
        rw [nm_x, Mo_inRange, bnO_s, if_pos (decide_eq_true c), Mo_pageMany hM1, bnO_s, nm_x, td_n (by omega), wr_s (by omega) (by omega), Mo_inRange, bnO_s, if_pos (decide_eq_true d), Mo_thr0, bnO_s, if_neg Bool.false_ne_true, Mo_ofGroupOn hM1, bnO_s]
    · refine ⟨1, S, 0, u (u S 514 4 0) 514 4 1, ?_, ?_, fin1 hG hH hP (.inl rfl)⟩
      · have : fn_FP_groupOn 0 a y S = some (2, 0) := by
          unfold fn_FP_groupOn
          rw [F_needGroup, if_pos c, bnO_s, if_pos rfl]
          by_cases d1 : y < 0
          · rw [if_pos d1]
          · rw [if_neg d1, tg_0_3, e7, nm_x, td_n (by omega), wr_s (by omega) (by omega), if_neg (by omega)]
        unfold fn_Law_groupOn
        rw [this]; rfl
      · have hM1 : MV (u S 514 4 0) W := hP.1.2.thr
        unfold fn_Mo_groupOn
        rw [nm_x, Mo_inRange, bnO_s, if_pos (decide_eq_true c), Mo_pageMany hM1, bnO_s, nm_x, td_n (by omega), wr_s (by omega) (by omega), Mo_inRange, bnO_s, decide_eq_false d, if_neg Bool.false_ne_true, Mo_thr1, bnO_s, if_pos rfl]
  · refine ⟨1, S, 0, u (u S 514 4 0) 514 4 1, ?_, ?_, fin1 hG hH hP (.inl rfl)⟩
    · unfold fn_Law_groupOn fn_FP_groupOn
      rw [F_needGroup, if_neg c]; rfl
    · unfold fn_Mo_groupOn
      rw [nm_x, Mo_inRange, bnO_s, decide_eq_false c, if_neg Bool.false_ne_true, Mo_thr1, bnO_s, if_pos rfl]
def emRn (W : Vw) (a : Int) : Int ⊕ Unit := runR (fun i (r : Int) => if lf W i = 4 then r + 1 else 0) (fun i r => if (if lf W i = 4 then r + 1 else 0) = a then some (.inl (wr (i - a + 1))) else none) (fun _ => (.inr () : Int ⊕ Unit)) 1 (pgs W).toNat 0
theorem c_emptyRun (h : PT S 5 W) (hG : Good W) {a : Int} (hi_a : inR a) (c : 1 ≤ a ∧ a ≤ 64) : fn_FP_emptyRun 0 a S = some (0, getI (emRn W a)) := by
  have b0 := h.pl.b
  unfold fn_FP_emptyRun
  rw [if_neg (by omega), if_pos c.2]
  have q : lo_FP_emptyRun_26 0 a S FU (0, 1) = some (emRn W a) := by
    have q0 := lp_run (body := fun go p0 => lb_FP_emptyRun_26 0 a S go p0.1 p0.2) (fun i (r : Int) => (r, i)) (fun i (r : Int) => if lf W i = 4 then r + 1 else 0) (fun i r => if (if lf W i = 4 then r + 1 else 0) = a then some (.inl (wr (i - a + 1))) else none) (fun _ => (.inr () : Int ⊕ Unit)) (fun i (r : Int) => 1 ≤ i ∧ 0 ≤ r ∧ r < i) (pgs W + 1)
      (fun go i z _ hi => by
        show lb_FP_emptyRun_26 0 a S go z i = _
        have e7 : g S 5 1 = pgs W := h.pl.gp
        unfold lb_FP_emptyRun_26
        rw [tg_0_3, e7, if_pos (by omega)])
      (fun go i z hI hi => by
        refine ⟨?_, fun _ => by split <;> omega⟩
        show lb_FP_emptyRun_26 0 a S go z i = _
        have e7 : g S 5 1 = pgs W := h.pl.gp
        have el : g S 30 i.toNat = lf W i := h.l hI.1 (by omega)
        unfold lb_FP_emptyRun_26
        rw [tg_0_3, e7, if_neg (by omega), if_pos (by omega : 0 ≤ i ∧ i < 65), tg_5_5, el, nm_x, nm_x, wr_s (z := i + 1) (by omega) (by omega)]
        by_cases d : lf W i = 4
        · rw [if_pos d, if_pos d, wr_s (z := z + 1) (by omega) (by omega)]
          by_cases d2 : z + 1 = a
          · rw [if_pos d2, if_pos d2]
          · rw [if_neg d2, if_neg d2]
        · rw [if_neg d, if_neg d]
          by_cases d2 : 0 = a
          · rw [if_pos d2, if_pos d2]
          · rw [if_neg d2, if_neg d2]; rfl) (pgs W).toNat FU 1 0 ⟨by omega, by omega, by omega⟩ (by omega) (FU_lt (by omega))
    exact q0
  rw [q]
  cases emRn W a <;> rfl
theorem m_emptyRun (hM : MV T W) (hG : Good W) {a : Int} (hi_a : inR a) (c : 1 ≤ a ∧ a ≤ 64) : fn_Mo_emptyRun 514 a T = some (getI (emRn W a), u T 514 4 0) := by
  have hM1 : MV (u T 514 4 0) W := hM.thr
  have b := hM.b
  have eA : fn_Mo_inRange a 1 64 (u T 514 4 0) = some true := by rw [Mo_inRange, decide_eq_true c]
  unfold fn_Mo_emptyRun
  simp only [nm_x, eA, bnO_s, Mo_thr0, if_true, if_false, Bool.false_eq_true]
  have q : lo_Mo_emptyRun_36 514 a (u T 514 4 0) FU (0, 1) = some (emRn W a) := by
    have q0 := lp_run (body := fun go p0 => lb_Mo_emptyRun_36 514 a (u T 514 4 0) go p0.1 p0.2) (fun i (r : Int) => (r, i)) (fun i (r : Int) => if lf W i = 4 then r + 1 else 0) (fun i r => if (if lf W i = 4 then r + 1 else 0) = a then some (.inl (wr (i - a + 1))) else none) (fun _ => (.inr () : Int ⊕ Unit)) (fun i (r : Int) => 1 ≤ i ∧ 0 ≤ r ∧ r < i) (pgs W + 1)
      (fun go i z _ hi => by
        show lb_Mo_emptyRun_36 514 a (u T 514 4 0) go z i = _
        unfold lb_Mo_emptyRun_36
        rw [Mo_pageMany hM1, bnO_s, if_pos (by omega)])
      (fun go i z hI hi => by
        refine ⟨?_, fun _ => by split <;> omega⟩
        show lb_Mo_emptyRun_36 514 a (u T 514 4 0) go z i = _
        unfold lb_Mo_emptyRun_36
        rw [Mo_pageMany hM1, bnO_s, if_neg (by omega), Mo_left hM1, bnO_s, nm_x, nm_x, wr_s (z := i + 1) (by omega) (by omega)]
        show (if lf W i = 4 then _ else _) = _
        by_cases d : lf W i = 4
        · rw [if_pos d, if_pos d, wr_s (z := z + 1) (by omega) (by omega)]
          by_cases d2 : z + 1 = a
          · rw [if_pos d2, if_pos d2]
          · rw [if_neg d2, if_neg d2]
        · rw [if_neg d, if_neg d]
          by_cases d2 : 0 = a
          · rw [if_pos d2, if_pos d2]
          · rw [if_neg d2, if_neg d2]; rfl) (pgs W).toNat FU 1 0 ⟨by omega, by omega, by omega⟩ (by omega) (FU_lt (by omega))
    exact q0
  rw [q]
  cases emRn W a <;> rfl
theorem ok_emptyRun (hI : Inv S) {a : Int} (hi_a : inR a) : ∃ e S1 r S2, fn_Law_emptyRun 0 a 524 S = some (e, S1) ∧ fn_Mo_emptyRun 514 a S1 = some (r, S2) ∧ Fin S2 e r := by
  obtain ⟨W, n, hs, hG, hH, hP⟩ := hI
  have h := hP.1.1
  by_cases c : 1 ≤ a ∧ a ≤ 64
  · have hv : inR (getI (emRn W a)) := by
      exact runR_in 1 1000 (fun i s x i1 i2 e => by by_cases d : (if lf W i = 4 then s + 1 else 0) = a; (· rw [if_pos d] at e; obtain rfl := Option.some.inj e; exact wr_in _); (· rw [if_neg d] at e; cases e)) (fun _ => inRk rfl) _ _ _ (Int.le_refl _) (by have b0 := h.pl.b; omega)
    refine ⟨0, ul S 524 0 (getI (emRn W a)), getI (emRn W a), _, ?_, m_emptyRun (hP.out (Off.wtl (by omega) (by omega))).1.2 hG hi_a c, fin0 hG hH hP hv⟩
    unfold fn_Law_emptyRun
    rw [c_emptyRun h hG hi_a c]; rfl
  · refine ⟨1, S, 0, u (u S 514 4 0) 514 4 1, ?_, ?_, fin1 hG hH hP (.inl rfl)⟩
    · unfold fn_Law_emptyRun fn_FP_emptyRun
      by_cases d1 : a < 1
      · rw [if_pos d1]; rfl
      · rw [if_neg d1, if_neg (by omega)]; rfl
    · have hM1 : MV (u S 514 4 0) W := hP.1.2.thr
      have eA : fn_Mo_inRange a 1 64 (u S 514 4 0) = some false := by rw [Mo_inRange, decide_eq_false c]
      unfold fn_Mo_emptyRun
      simp only [nm_x, eA, bnO_s, Mo_thr1, if_true, if_false, Bool.false_eq_true]
theorem ok_lost (hI : Inv S)   : ∃ r S2, fn_FP_lost 0 S = some r ∧ fn_Mo_lost 514 S = some (r, S2) ∧ Inv S2 := by
  obtain ⟨W, n, hs, hG, hH, hP⟩ := hI
  have h := hP.1.1
  have hM := hP.1.2
  have hM1 : MV (u S 514 4 0) W := hM.thr
  have b := hM.b
  refine ⟨lo_ W, u S 514 4 0, ?_, ?_, W, n, hs, hG, hH, hP.thr⟩
  · unfold fn_FP_lost
    rw [tg_0_3, tg_5_0]
    exact congrArg some h.pl.mlo
  · unfold fn_Mo_lost
    rw [nm_x]
    rw [tg_514_0, hM1.mlo]
theorem ok_undoCount (hI : Inv S)   : ∃ r S2, fn_FP_undoCount 0 S = some r ∧ fn_Mo_undoCount 514 S = some (r, S2) ∧ Inv S2 := by
  obtain ⟨W, n, hs, hG, hH, hP⟩ := hI
  have h := hP.1.1
  have hM := hP.1.2
  have hM1 : MV (u S 514 4 0) W := hM.thr
  have b := hM.b
  refine ⟨n, u S 514 4 0, ?_, ?_, W, n, hs, hG, hH, hP.thr⟩
  · unfold fn_FP_undoCount
    rw [tg_0_4]
    exact congrArg some hP.2.1.1.2.1
  · unfold fn_Mo_undoCount
    rw [nm_x]
    rw [g_ne (by omega), hP.2.1.2.1]
theorem ok_errorCode (hI : Inv S)   : ∃ r S2, fn_FP_errorCode 0 S = some r ∧ fn_Mo_errorCode 514 S = some (r, S2) ∧ Inv S2 := by
  obtain ⟨W, n, hs, hG, hH, hP⟩ := hI
  have h := hP.1.1
  have hM := hP.1.2
  have hM1 : MV (u S 514 4 0) W := hM.thr
  have b := hM.b
  refine ⟨g S 514 16, u S 514 4 0, ?_, ?_, W, n, hs, hG, hH, hP.thr⟩
  · unfold fn_FP_errorCode
    rw [tg_0_0]
    exact congrArg some hP.2.2.2.1.1
  · unfold fn_Mo_errorCode
    rw [nm_x]
    rw [g_ne (by omega)]
theorem ok_errorPosition (hI : Inv S)   : ∃ r S2, fn_FP_errorPosition 0 S = some r ∧ fn_Mo_errorPosition 514 S = some (r, S2) ∧ Inv S2 := by
  obtain ⟨W, n, hs, hG, hH, hP⟩ := hI
  have h := hP.1.1
  have hM := hP.1.2
  have hM1 : MV (u S 514 4 0) W := hM.thr
  have b := hM.b
  refine ⟨g S 514 17, u S 514 4 0, ?_, ?_, W, n, hs, hG, hH, hP.thr⟩
  · unfold fn_FP_errorPosition
    rw [tg_0_0]
    exact congrArg some hP.2.2.2.1.2
  · unfold fn_Mo_errorPosition
    rw [nm_x]
    rw [g_ne (by omega)]
end Reads3
