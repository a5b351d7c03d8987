section Reads
variable {S T : St} {W : Vw} {n : Int} {hs : Int → Vw}
theorem thr_mk {z : Int} (h : MV S W) : MV (u S 514 4 z) W := h.thr
/-! what is asked first -/
theorem F_needAd (h : PT S 5 W) {a : Int} : fn_FP_needAd 0 a S = some (if 0 ≤ a ∧ a < nA W then 0 else 1) := by
  have e : g S 7 7 = nA W := h.pl.mA
  unfold fn_FP_needAd
  simp only [tg_0_3, tg_5_0, tg_6_0, e]
  by_cases c1 : a < 0
  · rw [if_pos c1, if_neg (by omega)]
  · rw [if_neg c1]
    by_cases c2 : a < nA W
    · rw [if_pos c2, if_pos (by omega)]
    · rw [if_neg c2, if_neg (by omega)]
theorem F_needStory (h : PT S 5 W) {a : Int} : fn_FP_needStory 0 a S = some (if 0 ≤ a ∧ a < nS W then 0 else 1) := by
  have e : g S 15 5 = nS W := h.pl.mS
  unfold fn_FP_needStory
  simp only [tg_0_3, tg_5_0, tg_6_1, e]
  by_cases c1 : a < 0
  · rw [if_pos c1, if_neg (by omega)]
  · rw [if_neg c1]
    by_cases c2 : a < nS W
    · rw [if_pos c2, if_pos (by omega)]
    · rw [if_neg c2, if_neg (by omega)]
theorem F_needStandby (h : PT S 5 W) {a : Int} : fn_FP_needStandby 0 a S = some (if 0 ≤ a ∧ a < nB W then 0 else 1) := by
  have e : g S 21 2 = nB W := h.pl.mB
  unfold fn_FP_needStandby
  simp only [tg_0_3, tg_5_0, tg_6_2, e]
  by_cases c1 : a < 0
  · rw [if_pos c1, if_neg (by omega)]
  · rw [if_neg c1]
    by_cases c2 : a < nB W
    · rw [if_pos c2, if_pos (by omega)]
    · rw [if_neg c2, if_neg (by omega)]
theorem F_needForm (h : PT S 5 W) {a : Int} : fn_FP_needForm 0 a S = some (if 0 ≤ a ∧ a < frm W then 0 else 1) := by
  have e : g S 5 2 = frm W := h.pl.gf
  unfold fn_FP_needForm
  simp only [tg_0_3, e]
  by_cases c1 : a < 0
  · rw [if_pos c1, if_neg (by omega)]
  · rw [if_neg c1]
    by_cases c2 : a < frm W
    · rw [if_pos c2, if_pos (by omega)]
    · rw [if_neg c2, if_neg (by omega)]
theorem F_needPage (h : PT S 5 W) {a : Int} : fn_FP_needPage 0 a S = some (if 1 ≤ a ∧ a ≤ pgs W then 0 else 1) := by
  unfold fn_FP_needPage
  rw [tg_0_3, P_hasPage h.pl, bnO_s]
  unfold isP
  by_cases c : 1 ≤ a ∧ a ≤ pgs W
  · rw [decide_eq_true c, if_pos rfl, if_pos c]
  · rw [decide_eq_false c, if_neg Bool.false_ne_true, if_neg c]
theorem F_needGroup {a : Int} : fn_FP_needGroup a S = some (if 0 ≤ a ∧ a ≤ 9 then 0 else 2) := by
  unfold fn_FP_needGroup
  by_cases c1 : a < 0
  · rw [if_pos c1, if_neg (by omega)]
  · rw [if_neg c1]
    by_cases c2 : a < 10
    · rw [if_pos c2, if_pos (by omega)]
    · rw [if_neg c2, if_neg (by omega)]
theorem F_orNone {z : Int} : fn_FP_orNone z S = some (clo z) := by
  unfold fn_FP_orNone clo
  split <;> rfl
theorem M_told {z : Int} (h : 0 ≤ z) : fn_Mo_toldPage z S = some (clo z) := by
  unfold fn_Mo_toldPage clo
  by_cases c : z = 0
  · rw [if_pos (by omega), if_pos c]
  · rw [if_neg (by omega), if_neg c]
theorem clo_in {z : Int} (h : inR z) : inR (clo z) := by
  unfold clo
  split
  · exact inRk rfl
  · exact h
theorem F_placed {N c : Nat} {m : Int} (h1 : 0 ≤ m) (h2 : m ≤ (N : Int)) (hN : N ≤ 999) : fn_FP_placed N c m S = some (wr (sumR (fun i => if g S c i.toNat = 0 then 0 else 1) 0 m.toNat)) := by
  have q := lp_sum (body := fun go p0 => lb_FP_placed_4 N c m S go p0.1 p0.2) (fun i => if g S c i.toNat = 0 then 0 else 1) 0 m
    (fun go a i hi => by
      show lb_FP_placed_4 N c m S go a i = _
      unfold lb_FP_placed_4
      rw [if_pos hi])
    (fun go a i ha h1 hi => by
      show lb_FP_placed_4 N c m S go a i = _
      unfold lb_FP_placed_4
      rw [if_neg (by omega), if_neg (by omega), if_pos (by omega), nm_x, nm_x, nm_x, wr_s (by omega) (by omega)]
      by_cases d : g S c i.toNat = 0
      · rw [if_pos d, if_pos d, Int.add_zero, wr_id ha]
      · rw [if_neg d, if_neg d]) (n := FU) (a := 0) (inRk rfl) (FU_lt (by omega))
  unfold fn_FP_placed
  have q2 : lo_FP_placed_4 N c m S FU (0, 0) = _ := q
  rw [q2, bnO_s, Int.zero_add, Int.sub_zero]
theorem F_standing {N c : Nat} {m p : Int} (h1 : 0 ≤ m) (h2 : m ≤ (N : Int)) (hN : N ≤ 999) : fn_FP_standing N c m p S = some (wr (sumR (fun i => if g S c i.toNat = p then 1 else 0) 0 m.toNat)) := by
  have q := lp_sum (body := fun go p0 => lb_FP_standing_5 N c m p S go p0.1 p0.2) (fun i => if g S c i.toNat = p then 1 else 0) 0 m
    (fun go a i hi => by
      show lb_FP_standing_5 N c m p S go a i = _
      unfold lb_FP_standing_5
      rw [if_pos hi])
    (fun go a i ha h1 hi => by
      show lb_FP_standing_5 N c m p S go a i = _
      unfold lb_FP_standing_5
      rw [if_neg (by omega), if_neg (by omega), if_pos (by omega), nm_x, nm_x, nm_x, wr_s (z := i + 1) (by omega) (by omega)]
      by_cases d : g S c i.toNat = p
      · rw [if_pos d, if_pos d]
      · rw [if_neg d, if_neg d, Int.add_zero, wr_id ha]) (n := FU) (a := 0) (inRk rfl) (FU_lt (by omega))
  unfold fn_FP_standing
  have q2 : lo_FP_standing_5 N c m p S FU (0, 0) = _ := q
  rw [q2, bnO_s, Int.zero_add, Int.sub_zero]
theorem F_adsO (h : PT S 5 W) {p : Int} : fn_FP_standing 40 14 (nA W) p S = some (adsO W p) := by
  have b := h.pl.b
  rw [F_standing (by omega) (by omega) (by decide)]
  refine congrArg (fun z => some (wr z)) (sumR_congr (fun j h1 h2 => ?_))
  have e : g S 14 j.toNat = at_ W 6 j := h.pl.a6 ⟨h1, by omega⟩
  rw [e]
theorem F_stbO (h : PT S 5 W) {p : Int} : fn_FP_standing 8 23 (nB W) p S = some (stbO W p) := by
  have b := h.pl.b
  rw [F_standing (by omega) (by omega) (by decide)]
  refine congrArg (fun z => some (wr z)) (sumR_congr (fun j h1 h2 => ?_))
  have e : g S 23 j.toNat = at_ W 13 j := h.pl.b1 ⟨h1, by omega⟩
  rw [e]
/-! the calls -/
theorem c_reason (h : PT S 5 W) (hG : Good W) {a : Int} {p : Int} (hi_a : inR a) (hi_p : inR p) (c : 0 ≤ a ∧ a < nA W) : fn_FP_reason 0 a p S = some (0, reas W a p) := by
  unfold fn_FP_reason
  rw [F_needAd h, if_pos c, bnO_s, if_pos rfl, tg_0_3, P_adReason h c, bnO_s]
theorem m_reason (hM : MV T W) (hG : Good W) {a : Int} {p : Int} (hi_a : inR a) (hi_p : inR p) (c : 0 ≤ a ∧ a < nA W) : fn_Mo_reason 514 a p T = some (reas W a p, u T 514 4 0) := by
  have hM1 : MV (u T 514 4 0) W := hM.thr
  have b := hM.b
  have eA : fn_Mo_isAd 514 a (u T 514 4 0) = some true := by rw [Mo_isAd hM1, decide_eq_true c]
  unfold fn_Mo_reason
  simp only [nm_x, eA, bnO_s, Mo_thr0, if_true, if_false, Bool.false_eq_true, Mo_reasonOf hM1 c]
theorem ok_reason (hI : Inv S) {a : Int} {p : Int} (hi_a : inR a) (hi_p : inR p) : ∃ e S1 r S2, fn_Law_reason 0 a p 524 S = some (e, S1) ∧ fn_Mo_reason 514 a p S1 = some (r, S2) ∧ Fin S2 e r := by
  obtain ⟨W, n, hs, hG, hH, hP⟩ := hI
  have h := hP.1.1
  by_cases c : 0 ≤ a ∧ a < nA W
  · have hv : inR (reas W a p) := by
      unfold reas
      repeat' split
      all_goals exact inRk rfl
    refine ⟨0, ul S 524 0 (reas W a p), reas W a p, _, ?_, m_reason (hP.out (Off.wtl (by omega) (by omega))).1.2 hG hi_a hi_p c, fin0 hG hH hP hv⟩
    unfold fn_Law_reason
    rw [c_reason h hG hi_a hi_p c]; rfl
  · refine ⟨1, S, 0, u (u S 514 4 0) 514 4 1, ?_, ?_, fin1 hG hH hP (.inl rfl)⟩
    · unfold fn_Law_reason fn_FP_reason
      rw [F_needAd h, if_neg c]; rfl
    · have hM1 : MV (u S 514 4 0) W := hP.1.2.thr
      have eA : fn_Mo_isAd 514 a (u S 514 4 0) = some false := by rw [Mo_isAd hM1, decide_eq_false c]
      unfold fn_Mo_reason
      simp only [nm_x, eA, bnO_s, Mo_thr1, if_true, if_false, Bool.false_eq_true]
def chcs (W : Vw) (a : Int) : Int := wr (sumP W (fun q => if reas W a q = 0 then 1 else 0))
theorem Mo_choicesOf (hM : MV S W) {a : Int} (ha : 0 ≤ a ∧ a < nA W) : fn_Mo_choicesOf 514 a S = some (chcs W a) := by
  unfold fn_Mo_choicesOf chcs
  rw [Mo_chc0 hM ha (inRk rfl), bnO_s, Int.zero_add]
theorem P_pagesFor (h : PT S 5 W) {x : Int} (hx : 0 ≤ x ∧ x < nA W) : fn_Searches_pagesFor 505 x S = some (chcs W x) := by
  have b := h.pl.b
  have q := lp_sum (body := fun go p0 => lb_Searches_pagesFor_4 505 x S go p0.1 p0.2) (fun q => if reas W x q = 0 then 1 else 0) 1 (pgs W + 1)
    (fun go a i hi => by
      show lb_Searches_pagesFor_4 505 x S go a i = _
      unfold lb_Searches_pagesFor_4
      simp only [tg_505_0, h.pl.gp]
      rw [if_pos (by omega)])
    (fun go a i ha h1 hi => by
      show lb_Searches_pagesFor_4 505 x S go a i = _
      unfold lb_Searches_pagesFor_4
      simp only [tg_505_0, h.pl.gp, P_adReason h hx, bnO_s, nm_x, wr_s (z := i + 1) (by omega) (by omega)]
      rw [if_neg (by omega)]
      by_cases d : reas W x i = 0
      · rw [if_pos d, if_pos d]
      · rw [if_neg d, if_neg d, Int.add_zero, wr_id ha]) (n := FU) (a := 0) (inRk rfl) (FU_lt (by omega))
  simp only [Int.add_sub_cancel] at q
  unfold fn_Searches_pagesFor chcs
  have q2 : lo_Searches_pagesFor_4 505 x S FU (0, 1) = _ := q
  rw [q2, bnO_s, Int.zero_add]; rfl
theorem c_choices (h : PT S 5 W) (hG : Good W) {a : Int} (hi_a : inR a) (c : 0 ≤ a ∧ a < nA W) : fn_FP_choices 0 a S = some (0, chcs W a) := by
  unfold fn_FP_choices
  rw [F_needAd h, if_pos c, bnO_s, if_pos rfl, tg_0_2, P_pagesFor h c, bnO_s]
theorem m_choices (hM : MV T W) (hG : Good W) {a : Int} (hi_a : inR a) (c : 0 ≤ a ∧ a < nA W) : fn_Mo_choices 514 a T = some (chcs W a, u T 514 4 0) := by
  have hM1 : MV (u T 514 4 0) W := hM.thr
  have b := hM.b
  have eA : fn_Mo_isAd 514 a (u T 514 4 0) = some true := by rw [Mo_isAd hM1, decide_eq_true c]
  unfold fn_Mo_choices
  simp only [nm_x, eA, bnO_s, Mo_thr0, if_true, if_false, Bool.false_eq_true, Mo_choicesOf hM1 c]
theorem ok_choices (hI : Inv S) {a : Int} (hi_a : inR a) : ∃ e S1 r S2, fn_Law_choices 0 a 524 S = some (e, S1) ∧ fn_Mo_choices 514 a S1 = some (r, S2) ∧ Fin S2 e r := by
  obtain ⟨W, n, hs, hG, hH, hP⟩ := hI
  have h := hP.1.1
  by_cases c : 0 ≤ a ∧ a < nA W
  · have hv : inR (chcs W a) := by
      unfold chcs; exact wr_in _
    refine ⟨0, ul S 524 0 (chcs W a), chcs W a, _, ?_, m_choices (hP.out (Off.wtl (by omega) (by omega))).1.2 hG hi_a c, fin0 hG hH hP hv⟩
    unfold fn_Law_choices
    rw [c_choices h hG hi_a c]; rfl
  · refine ⟨1, S, 0, u (u S 514 4 0) 514 4 1, ?_, ?_, fin1 hG hH hP (.inl rfl)⟩
    · unfold fn_Law_choices fn_FP_choices
      rw [F_needAd h, if_neg c]; rfl
    · have hM1 : MV (u S 514 4 0) W := hP.1.2.thr
      have eA : fn_Mo_isAd 514 a (u S 514 4 0) = some false := by rw [Mo_isAd hM1, decide_eq_false c]
      unfold fn_Mo_choices
      simp only [nm_x, eA, bnO_s, Mo_thr1, if_true, if_false, Bool.false_eq_true]
def fstP (W : Vw) (a p : Int) : Int := fstR (fun q => decide (reas W a q = 0)) (i_max p 1) (pgs W + 1 - i_max p 1).toNat
theorem P_firstFor (h : PT S 5 W) {x p : Int} (hx : 0 ≤ x ∧ x < nA W) (hp : inR p) : fn_Plan_firstFor 5 x p S = some (fstP W x p) := by
  have b := h.pl.b
  have hm : 1 ≤ i_max p 1 := by unfold i_max; split <;> omega
  have q := lp_fst (body := fun go p0 => lb_Plan_firstFor_6 5 x S go p0) (fun q => decide (reas W x q = 0)) (fun i => i) (i_max p 1) (pgs W + 1)
    (fun go i hi => by
      show lb_Plan_firstFor_6 5 x S go i = _
      unfold lb_Plan_firstFor_6
      rw [h.pl.gp, if_pos (by omega)])
    (fun go i h1 hi => by
      show lb_Plan_firstFor_6 5 x S go i = _
      unfold lb_Plan_firstFor_6
      rw [h.pl.gp, if_neg (by omega), P_adReason h hx, bnO_s, nm_x, wr_s (by omega) (by omega)]
      by_cases d : reas W x i = 0
      · rw [if_pos d, if_pos (decide_eq_true d)]
      · rw [if_neg d, if_neg (by rw [decide_eq_true_eq]; exact d)]) (n := FU) (by omega) (FU_lt (by omega))
  unfold fn_Plan_firstFor fstP
  have q2 : lo_Plan_firstFor_6 5 x S FU (i_max p 1) = _ := q
  rw [q2]
  split
  · rename_i d; rw [d]; rfl
  · rfl
theorem Mo_firstLoop (hM : MV S W) {x p : Int} (hx : 0 ≤ x ∧ x < nA W) (hp : 1 ≤ p) : bnS (lo_Mo_firstOf_11 514 x S FU p) (fun p7 => some p7) (fun _ => some (-1)) = some (fstR (fun q => decide (reas W x q = 0)) p (pgs W + 1 - p).toNat) := by
  have b := hM.b
  have q := lp_fst (body := fun go p0 => lb_Mo_firstOf_11 514 x S go p0) (fun q => decide (reas W x q = 0)) (fun i => i) p (pgs W + 1)
    (fun go i hi => by
      show lb_Mo_firstOf_11 514 x S go i = _
      unfold lb_Mo_firstOf_11
      rw [Mo_pageMany hM, bnO_s, if_pos (by omega)])
    (fun go i h1 hi => by
      show lb_Mo_firstOf_11 514 x S go i = _
      unfold lb_Mo_firstOf_11
      rw [Mo_pageMany hM, bnO_s, if_neg (by omega), Mo_reasonOf hM hx, bnO_s, nm_x, wr_s (by omega) (by omega)]
      by_cases d : reas W x i = 0
      · rw [if_pos d, if_pos (decide_eq_true d)]
      · rw [if_neg d, if_neg (by rw [decide_eq_true_eq]; exact d)]) (n := FU) (by omega) (FU_lt (by omega))
  have q2 : lo_Mo_firstOf_11 514 x S FU p = _ := q
  rw [q2]
  split
  · rename_i d; rw [d]; rfl
  · rfl
theorem Mo_firstOf (hM : MV S W) {x p : Int} (hx : 0 ≤ x ∧ x < nA W) (hp : inR p) : fn_Mo_firstOf 514 x p S = some (fstP W x p) := by
  unfold fn_Mo_firstOf fstP i_max
  by_cases c : 1 ≤ p
  · rw [if_pos c, if_neg (by omega)]; exact Mo_firstLoop hM hx c
  · rw [if_neg c, if_pos (by omega)]; exact Mo_firstLoop hM hx (by omega)
theorem c_firstPage (h : PT S 5 W) (hG : Good W) {a : Int} {p : Int} (hi_a : inR a) (hi_p : inR p) (c : 0 ≤ a ∧ a < nA W) : fn_FP_firstPage 0 a p S = some (0, fstP W a p) := by
  unfold fn_FP_firstPage
  rw [F_needAd h, if_pos c, bnO_s, if_pos rfl, tg_0_3, P_firstFor h c hi_p, bnO_s]
theorem m_firstPage (hM : MV T W) (hG : Good W) {a : Int} {p : Int} (hi_a : inR a) (hi_p : inR p) (c : 0 ≤ a ∧ a < nA W) : fn_Mo_firstPage 514 a p T = some (fstP W a p, u T 514 4 0) := by
  have hM1 : MV (u T 514 4 0) W := hM.thr
  have b := hM.b
  have eA : fn_Mo_isAd 514 a (u T 514 4 0) = some true := by rw [Mo_isAd hM1, decide_eq_true c]
  unfold fn_Mo_firstPage
  simp only [nm_x, eA, bnO_s, Mo_thr0, if_true, if_false, Bool.false_eq_true, Mo_firstOf hM1 c hi_p]
theorem ok_firstPage (hI : Inv S) {a : Int} {p : Int} (hi_a : inR a) (hi_p : inR p) : ∃ e S1 r S2, fn_Law_firstPage 0 a p 524 S = some (e, S1) ∧ fn_Mo_firstPage 514 a p S1 = some (r, S2) ∧ Fin S2 e r := by
  obtain ⟨W, n, hs, hG, hH, hP⟩ := hI
  have h := hP.1.1
  by_cases c : 0 ≤ a ∧ a < nA W
  · have hv : inR (fstP W a p) := by
      unfold fstP
      have b := h.pl.b
      rcases fstR_spec (p := fun q => decide (reas W a q = 0)) (n := (pgs W + 1 - i_max p 1).toNat) (i := i_max p 1) (by unfold i_max; split <;> omega) with q | q
      · rw [q.1]; exact inRk rfl
      · have hm : 1 ≤ i_max p 1 := by unfold i_max; split <;> omega
        generalize i_max p 1 = m at q hm ⊢
        unfold inR; omega
    refine ⟨0, ul S 524 0 (fstP W a p), fstP W a p, _, ?_, m_firstPage (hP.out (Off.wtl (by omega) (by omega))).1.2 hG hi_a hi_p c, fin0 hG hH hP hv⟩
    unfold fn_Law_firstPage
    rw [c_firstPage h hG hi_a hi_p c]; rfl
  · refine ⟨1, S, 0, u (u S 514 4 0) 514 4 1, ?_, ?_, fin1 hG hH hP (.inl rfl)⟩
    · unfold fn_Law_firstPage fn_FP_firstPage
      rw [F_needAd h, if_neg c]; rfl
    · have hM1 : MV (u S 514 4 0) W := hP.1.2.thr
      have eA : fn_Mo_isAd 514 a (u S 514 4 0) = some false := by rw [Mo_isAd hM1, decide_eq_false c]
      unfold fn_Mo_firstPage
      simp only [nm_x, eA, bnO_s, Mo_thr1, if_true, if_false, Bool.false_eq_true]
def q_ad (W : Vw) (a y : Int) : Int := if y = 0 then at_ W 0 a else if y = 1 then at_ W 1 a else if y = 2 then at_ W 2 a else if y = 3 then at_ W 3 a else if y = 4 then at_ W 4 a else if y = 5 then at_ W 5 a else if y = 6 then clo (at_ W 6 a) else if y = 7 then (if laA W a = true then 1 else 0) else -1
theorem c_ad (h : PT S 5 W) (hG : Good W) {a : Int} {y : Int} (hi_a : inR a) (hi_y : inR y) (c : 0 ≤ a ∧ a < nA W) : fn_FP_ad 0 a y S = some (0, q_ad W a y) := by
  unfold fn_FP_ad q_ad
  rw [F_needAd h, if_pos c, bnO_s, if_pos rfl]
  by_cases d0 : y = 0
  · rw [if_pos d0, if_pos d0]
    simp only [tg_0_3, tg_5_0, tg_6_0, tg_7_0]
    have e : g S 8 a.toNat = at_ W 0 a := h.pl.a0 c
    have b0 := h.pl.b
    rw [if_pos (by omega), e]
  · rw [if_neg d0, if_neg d0]
    by_cases d1 : y = 1
    · rw [if_pos d1, if_pos d1]
      simp only [tg_0_3, tg_5_0, tg_6_0, tg_7_1]
      have e : g S 9 a.toNat = at_ W 1 a := h.pl.a1 c
      have b0 := h.pl.b
      rw [if_pos (by omega), e]
    · rw [if_neg d1, if_neg d1]
      by_cases d2 : y = 2
      · rw [if_pos d2, if_pos d2]
        simp only [tg_0_3, tg_5_0, tg_6_0, tg_7_2]
        have e : g S 10 a.toNat = at_ W 2 a := h.pl.a2 c
        have b0 := h.pl.b
        rw [if_pos (by omega), e]
      · rw [if_neg d2, if_neg d2]
        by_cases d3 : y = 3
        · rw [if_pos d3, if_pos d3]
          simp only [tg_0_3, tg_5_0, tg_6_0, tg_7_3]
          have e : g S 11 a.toNat = at_ W 3 a := h.pl.a3 c
          have b0 := h.pl.b
          rw [if_pos (by omega), e]
        · rw [if_neg d3, if_neg d3]
          by_cases d4 : y = 4
          · rw [if_pos d4, if_pos d4]
            simp only [tg_0_3, tg_5_0, tg_6_0, tg_7_4]
            have e : g S 12 a.toNat = at_ W 4 a := h.pl.a4 c
            have b0 := h.pl.b
            rw [if_pos (by omega), e]
          · rw [if_neg d4, if_neg d4]
            by_cases d5 : y = 5
            · rw [if_pos d5, if_pos d5]
              simp only [tg_0_3, tg_5_0, tg_6_0, tg_7_5]
              have e : g S 13 a.toNat = at_ W 5 a := h.pl.a5 c
              have b0 := h.pl.b
              rw [if_pos (by omega), e]
            · rw [if_neg d5, if_neg d5]
              by_cases d6 : y = 6
              · rw [if_pos d6, if_pos d6]
                simp only [tg_0_3, tg_5_0, tg_6_0, tg_7_6]
                have e : g S 14 a.toNat = at_ W 6 a := h.pl.a6 c
                have b0 := h.pl.b
                rw [if_pos (by omega), e, F_orNone, bnO_s]
              · rw [if_neg d6, if_neg d6]
                by_cases d7 : y = 7
                · rw [if_pos d7, if_pos d7]
                  simp only [tg_0_3, tg_5_0, tg_6_0, tg_7_5]
                  have e : g S 13 a.toNat = at_ W 5 a := h.pl.a5 c
                  have b0 := h.pl.b
                  rw [if_pos (by omega), e, P_isLate h.pl, bnO_s]
                  show (if laA W a = true then _ else _) = _
                  cases laA W a <;> rfl
                · rw [if_neg d7, if_neg d7]
theorem m_ad (hM : MV T W) (hG : Good W) {a : Int} {y : Int} (hi_a : inR a) (hi_y : inR y) (c : 0 ≤ a ∧ a < nA W) : fn_Mo_ad 514 a y T = some (q_ad W a y, u T 514 4 0) := by
  have hM1 : MV (u T 514 4 0) W := hM.thr
  have b := hM.b
  have eA : fn_Mo_isAd 514 a (u T 514 4 0) = some true := by rw [Mo_isAd hM1, decide_eq_true c]
  unfold fn_Mo_ad q_ad
  simp only [nm_x, eA, bnO_s, Mo_thr0, if_true, if_false, Bool.false_eq_true, Mo_inRange]
  by_cases d0 : y = 0
  · rw [if_pos d0]
    rw [if_pos (decide_eq_true (by omega))]
    have e : fn_Mo_ofAd 514 a 0 (u T 514 4 0) = some (at_ W 0 a) := Mo_ofAd hM1 (k := 0) (by omega) c
    rw [d0, e]; rfl
  · rw [if_neg d0]
    by_cases d1 : y = 1
    · rw [if_pos d1]
      rw [if_pos (decide_eq_true (by omega))]
      have e : fn_Mo_ofAd 514 a 1 (u T 514 4 0) = some (at_ W 1 a) := Mo_ofAd hM1 (k := 1) (by omega) c
      rw [d1, e]; rfl
    · rw [if_neg d1]
      by_cases d2 : y = 2
      · rw [if_pos d2]
        rw [if_pos (decide_eq_true (by omega))]
        have e : fn_Mo_ofAd 514 a 2 (u T 514 4 0) = some (at_ W 2 a) := Mo_ofAd hM1 (k := 2) (by omega) c
        rw [d2, e]; rfl
      · rw [if_neg d2]
        by_cases d3 : y = 3
        · rw [if_pos d3]
          rw [if_pos (decide_eq_true (by omega))]
          have e : fn_Mo_ofAd 514 a 3 (u T 514 4 0) = some (at_ W 3 a) := Mo_ofAd hM1 (k := 3) (by omega) c
          rw [d3, e]; rfl
        · rw [if_neg d3]
          by_cases d4 : y = 4
          · rw [if_pos d4]
            rw [if_pos (decide_eq_true (by omega))]
            have e : fn_Mo_ofAd 514 a 4 (u T 514 4 0) = some (at_ W 4 a) := Mo_ofAd hM1 (k := 4) (by omega) c
            rw [d4, e]; rfl
          · rw [if_neg d4]
            by_cases d5 : y = 5
            · rw [if_pos d5]
              rw [if_pos (decide_eq_true (by omega))]
              have e : fn_Mo_ofAd 514 a 5 (u T 514 4 0) = some (at_ W 5 a) := Mo_ofAd hM1 (k := 5) (by omega) c
              rw [d5, e]; rfl
            · rw [if_neg d5]
              by_cases d6 : y = 6
              · rw [if_pos d6]
                rw [if_neg (by rw [decide_eq_true_eq]; omega)]
                rw [if_pos d6]
                have v := hM.2.2.1 a c.1 c.2
                have e : fn_Mo_ofAd 514 a 6 (u T 514 4 0) = some (at_ W 6 a) := Mo_ofAd hM1 (k := 6) (by omega) c
                rw [e, bnO_s, M_told (by omega)]; rfl
              · rw [if_neg d6]
                by_cases d7 : y = 7
                · rw [if_pos d7]
                  rw [if_neg (by rw [decide_eq_true_eq]; omega)]
                  rw [if_neg d6]
                  rw [if_pos d7]
                  rw [Mo_isAdLate hM1 c]
                  show (if laA W a = true then _ else _) = _
                  cases laA W a <;> rfl
                · rw [if_neg d7]
                  rw [if_neg (by rw [decide_eq_true_eq]; omega)]
                  rw [if_neg d6]
                  rw [if_neg d7]
theorem ok_ad (hI : Inv S) {a : Int} {y : Int} (hi_a : inR a) (hi_y : inR y) : ∃ e S1 r S2, fn_Law_ad 0 a y 524 S = some (e, S1) ∧ fn_Mo_ad 514 a y S1 = some (r, S2) ∧ Fin S2 e r := by
  obtain ⟨W, n, hs, hG, hH, hP⟩ := hI
  have h := hP.1.1
  by_cases c : 0 ≤ a ∧ a < nA W
  · have hv : inR (q_ad W a y) := by
      unfold q_ad
      have b0 := h.pl.b; have hV := h.v; have hW := h.w
      by_cases d0 : y = 0
      · rw [if_pos d0]; have v := h.v.2.1 a c.1 c.2; exact ⟨by omega, by omega⟩
      · rw [if_neg d0]
        by_cases d1 : y = 1
        · rw [if_pos d1]; have v := h.v.2.1 a c.1 c.2; exact ⟨by omega, by omega⟩
        · rw [if_neg d1]
          by_cases d2 : y = 2
          · rw [if_pos d2]; have v := h.v.2.1 a c.1 c.2; exact ⟨by omega, by omega⟩
          · rw [if_neg d2]
            by_cases d3 : y = 3
            · rw [if_pos d3]; have v := h.v.2.1 a c.1 c.2; exact ⟨by omega, by omega⟩
            · rw [if_neg d3]
              by_cases d4 : y = 4
              · rw [if_pos d4]; have v := h.v.2.1 a c.1 c.2; exact ⟨by omega, by omega⟩
              · rw [if_neg d4]
                by_cases d5 : y = 5
                · rw [if_pos d5]; have v := h.v.2.1 a c.1 c.2; exact ⟨by omega, by omega⟩
                · rw [if_neg d5]
                  by_cases d6 : y = 6
                  · rw [if_pos d6]; have v := h.v.2.1 a c.1 c.2; exact clo_in ⟨by omega, by omega⟩
                  · rw [if_neg d6]
                    by_cases d7 : y = 7
                    · rw [if_pos d7]; split <;> exact inRk rfl
                    · rw [if_neg d7]
                      exact inRk rfl
    refine ⟨0, ul S 524 0 (q_ad W a y), q_ad W a y, _, ?_, m_ad (hP.out (Off.wtl (by omega) (by omega))).1.2 hG hi_a hi_y c, fin0 hG hH hP hv⟩
    unfold fn_Law_ad
    rw [c_ad h hG hi_a hi_y c]; rfl
  · refine ⟨1, S, 0, u (u S 514 4 0) 514 4 1, ?_, ?_, fin1 hG hH hP (.inl rfl)⟩
    · unfold fn_Law_ad fn_FP_ad
      rw [F_needAd h, if_neg c]; rfl
    · have hM1 : MV (u S 514 4 0) W := hP.1.2.thr
      have eA : fn_Mo_isAd 514 a (u S 514 4 0) = some false := by rw [Mo_isAd hM1, decide_eq_false c]
      unfold fn_Mo_ad
      simp only [nm_x, eA, bnO_s, Mo_thr1, if_true, if_false, Bool.false_eq_true]
def q_story (W : Vw) (a y : Int) : Int := if y = 0 then at_ W 7 a else if y = 1 then at_ W 8 a else if y = 2 then at_ W 9 a else if y = 3 then at_ W 10 a else if y = 4 then clo (at_ W 11 a) else if y = 5 then (if laS W a = true then 1 else 0) else -1
theorem c_story (h : PT S 5 W) (hG : Good W) {a : Int} {y : Int} (hi_a : inR a) (hi_y : inR y) (c : 0 ≤ a ∧ a < nS W) : fn_FP_story 0 a y S = some (0, q_story W a y) := by
  unfold fn_FP_story q_story
  rw [F_needStory h, if_pos c, bnO_s, if_pos rfl]
  by_cases d0 : y = 0
  · rw [if_pos d0, if_pos d0]
    simp only [tg_0_3, tg_5_0, tg_6_1, tg_15_0]
    have e : g S 16 a.toNat = at_ W 7 a := h.pl.s0 c
    have b0 := h.pl.b
    rw [if_pos (by omega), e]
  · rw [if_neg d0, if_neg d0]
    by_cases d1 : y = 1
    · rw [if_pos d1, if_pos d1]
      simp only [tg_0_3, tg_5_0, tg_6_1, tg_15_1]
      have e : g S 17 a.toNat = at_ W 8 a := h.pl.s1 c
      have b0 := h.pl.b
      rw [if_pos (by omega), e]
    · rw [if_neg d1, if_neg d1]
      by_cases d2 : y = 2
      · rw [if_pos d2, if_pos d2]
        simp only [tg_0_3, tg_5_0, tg_6_1, tg_15_2]
        have e : g S 18 a.toNat = at_ W 9 a := h.pl.s2 c
        have b0 := h.pl.b
        rw [if_pos (by omega), e]
      · rw [if_neg d2, if_neg d2]
        by_cases d3 : y = 3
        · rw [if_pos d3, if_pos d3]
          simp only [tg_0_3, tg_5_0, tg_6_1, tg_15_3]
          have e : g S 19 a.toNat = at_ W 10 a := h.pl.s3 c
          have b0 := h.pl.b
          rw [if_pos (by omega), e]
        · rw [if_neg d3, if_neg d3]
          by_cases d4 : y = 4
          · rw [if_pos d4, if_pos d4]
            simp only [tg_0_3, tg_5_0, tg_6_1, tg_15_4]
            have e : g S 20 a.toNat = at_ W 11 a := h.pl.s4 c
            have b0 := h.pl.b
            rw [if_pos (by omega), e, F_orNone, bnO_s]
          · rw [if_neg d4, if_neg d4]
            by_cases d5 : y = 5
            · rw [if_pos d5, if_pos d5]
              simp only [tg_0_3, tg_5_0, tg_6_1, tg_15_3]
              have e : g S 19 a.toNat = at_ W 10 a := h.pl.s3 c
              have b0 := h.pl.b
              rw [if_pos (by omega), e, P_isLate h.pl, bnO_s]
              show (if laS W a = true then _ else _) = _
              cases laS W a <;> rfl
            · rw [if_neg d5, if_neg d5]
theorem m_story (hM : MV T W) (hG : Good W) {a : Int} {y : Int} (hi_a : inR a) (hi_y : inR y) (c : 0 ≤ a ∧ a < nS W) : fn_Mo_story 514 a y T = some (q_story W a y, u T 514 4 0) := by
  have hM1 : MV (u T 514 4 0) W := hM.thr
  have b := hM.b
  have eA : fn_Mo_isStory 514 a (u T 514 4 0) = some true := by rw [Mo_isStory hM1, decide_eq_true c]
  unfold fn_Mo_story q_story
  simp only [nm_x, eA, bnO_s, Mo_thr0, if_true, if_false, Bool.false_eq_true, Mo_inRange]
  by_cases d0 : y = 0
  · rw [if_pos d0]
    rw [if_pos (decide_eq_true (by omega))]
    have e : fn_Mo_ofStory 514 a 0 (u T 514 4 0) = some (at_ W 7 a) := Mo_ofStory hM1 (k := 0) (by omega) c
    rw [d0, e]; rfl
  · rw [if_neg d0]
    by_cases d1 : y = 1
    · rw [if_pos d1]
      rw [if_pos (decide_eq_true (by omega))]
      have e : fn_Mo_ofStory 514 a 1 (u T 514 4 0) = some (at_ W 8 a) := Mo_ofStory hM1 (k := 1) (by omega) c
      rw [d1, e]; rfl
    · rw [if_neg d1]
      by_cases d2 : y = 2
      · rw [if_pos d2]
        rw [if_pos (decide_eq_true (by omega))]
        have e : fn_Mo_ofStory 514 a 2 (u T 514 4 0) = some (at_ W 9 a) := Mo_ofStory hM1 (k := 2) (by omega) c
        rw [d2, e]; rfl
      · rw [if_neg d2]
        by_cases d3 : y = 3
        · rw [if_pos d3]
          rw [if_pos (decide_eq_true (by omega))]
          have e : fn_Mo_ofStory 514 a 3 (u T 514 4 0) = some (at_ W 10 a) := Mo_ofStory hM1 (k := 3) (by omega) c
          rw [d3, e]; rfl
        · rw [if_neg d3]
          by_cases d4 : y = 4
          · rw [if_pos d4]
            rw [if_neg (by rw [decide_eq_true_eq]; omega)]
            rw [if_pos d4]
            have v := hM.2.2.2.1 a c.1 c.2
            have e : fn_Mo_ofStory 514 a 4 (u T 514 4 0) = some (at_ W 11 a) := Mo_ofStory hM1 (k := 4) (by omega) c
            rw [e, bnO_s, M_told (by omega)]; rfl
          · rw [if_neg d4]
            by_cases d5 : y = 5
            · rw [if_pos d5]
              rw [if_neg (by rw [decide_eq_true_eq]; omega)]
              rw [if_neg d4]
              rw [if_pos d5]
              rw [Mo_isStoryLate hM1 c]
              show (if laS W a = true then _ else _) = _
              cases laS W a <;> rfl
            · rw [if_neg d5]
              rw [if_neg (by rw [decide_eq_true_eq]; omega)]
              rw [if_neg d4]
              rw [if_neg d5]
theorem ok_story (hI : Inv S) {a : Int} {y : Int} (hi_a : inR a) (hi_y : inR y) : ∃ e S1 r S2, fn_Law_story 0 a y 524 S = some (e, S1) ∧ fn_Mo_story 514 a y S1 = some (r, S2) ∧ Fin S2 e r := by
  obtain ⟨W, n, hs, hG, hH, hP⟩ := hI
  have h := hP.1.1
  by_cases c : 0 ≤ a ∧ a < nS W
  · have hv : inR (q_story W a y) := by
      unfold q_story
      have b0 := h.pl.b; have hV := h.v; have hW := h.w
      by_cases d0 : y = 0
      · rw [if_pos d0]; have v := h.v.2.2.1 a c.1 c.2; exact ⟨by omega, by omega⟩
      · rw [if_neg d0]
        by_cases d1 : y = 1
        · rw [if_pos d1]; have v := h.v.2.2.1 a c.1 c.2; exact ⟨by omega, by omega⟩
        · rw [if_neg d1]
          by_cases d2 : y = 2
          · rw [if_pos d2]; have v := h.v.2.2.1 a c.1 c.2; exact ⟨by omega, by omega⟩
          · rw [if_neg d2]
            by_cases d3 : y = 3
            · rw [if_pos d3]; have v := h.v.2.2.1 a c.1 c.2; exact ⟨by omega, by omega⟩
            · rw [if_neg d3]
              by_cases d4 : y = 4
              · rw [if_pos d4]; have v := h.v.2.2.1 a c.1 c.2; exact clo_in ⟨by omega, by omega⟩
              · rw [if_neg d4]
                by_cases d5 : y = 5
                · rw [if_pos d5]; split <;> exact inRk rfl
                · rw [if_neg d5]
                  exact inRk rfl
    refine ⟨0, ul S 524 0 (q_story W a y), q_story W a y, _, ?_, m_story (hP.out (Off.wtl (by omega) (by omega))).1.2 hG hi_a hi_y c, fin0 hG hH hP hv⟩
    unfold fn_Law_story
    rw [c_story h hG hi_a hi_y c]; rfl
  · refine ⟨1, S, 0, u (u S 514 4 0) 514 4 1, ?_, ?_, fin1 hG hH hP (.inl rfl)⟩
    · unfold fn_Law_story fn_FP_story
      rw [F_needStory h, if_neg c]; rfl
    · have hM1 : MV (u S 514 4 0) W := hP.1.2.thr
      have eA : fn_Mo_isStory 514 a (u S 514 4 0) = some false := by rw [Mo_isStory hM1, decide_eq_false c]
      unfold fn_Mo_story
      simp only [nm_x, eA, bnO_s, Mo_thr1, if_true, if_false, Bool.false_eq_true]
def q_standby (W : Vw) (a y : Int) : Int := if y = 0 then at_ W 12 a else if y = 1 then clo (at_ W 13 a) else -1
theorem c_standby (h : PT S 5 W) (hG : Good W) {a : Int} {y : Int} (hi_a : inR a) (hi_y : inR y) (c : 0 ≤ a ∧ a < nB W) : fn_FP_standby 0 a y S = some (0, q_standby W a y) := by
  unfold fn_FP_standby q_standby
  rw [F_needStandby h, if_pos c, bnO_s, if_pos rfl]
  by_cases d0 : y = 0
  · rw [if_pos d0, if_pos d0]
    simp only [tg_0_3, tg_5_0, tg_6_2, tg_21_0]
    have e : g S 22 a.toNat = at_ W 12 a := h.pl.b0 c
    have b0 := h.pl.b
    rw [if_pos (by omega), e]
  · rw [if_neg d0, if_neg d0]
    by_cases d1 : y = 1
    · rw [if_pos d1, if_pos d1]
      simp only [tg_0_3, tg_5_0, tg_6_2, tg_21_1]
      have e : g S 23 a.toNat = at_ W 13 a := h.pl.b1 c
      have b0 := h.pl.b
      rw [if_pos (by omega), e, F_orNone, bnO_s]
    · rw [if_neg d1, if_neg d1]
theorem m_standby (hM : MV T W) (hG : Good W) {a : Int} {y : Int} (hi_a : inR a) (hi_y : inR y) (c : 0 ≤ a ∧ a < nB W) : fn_Mo_standby 514 a y T = some (q_standby W a y, u T 514 4 0) := by
  have hM1 : MV (u T 514 4 0) W := hM.thr
  have b := hM.b
  have eA : fn_Mo_isStandby 514 a (u T 514 4 0) = some true := by rw [Mo_isStandby hM1, decide_eq_true c]
  unfold fn_Mo_standby q_standby
  simp only [nm_x, eA, bnO_s, Mo_thr0, if_true, if_false, Bool.false_eq_true]
  by_cases d0 : y = 0
  · rw [if_pos d0]
    have e : fn_Mo_ofStandby 514 a 0 (u T 514 4 0) = some (at_ W 12 a) := Mo_ofStandby hM1 (k := 0) (by omega) c
    rw [if_pos d0, e]; rfl
  · rw [if_neg d0]
    by_cases d1 : y = 1
    · rw [if_pos d1]
      have v := hM.2.2.2.2.1 a c.1 c.2
      have e : fn_Mo_ofStandby 514 a 1 (u T 514 4 0) = some (at_ W 13 a) := Mo_ofStandby hM1 (k := 1) (by omega) c
      rw [if_neg d0, if_pos d1, e, bnO_s, M_told (by omega)]; rfl
    · rw [if_neg d1]
      rw [if_neg d0, if_neg d1]
theorem ok_standby (hI : Inv S) {a : Int} {y : Int} (hi_a : inR a) (hi_y : inR y) : ∃ e S1 r S2, fn_Law_standby 0 a y 524 S = some (e, S1) ∧ fn_Mo_standby 514 a y S1 = some (r, S2) ∧ Fin S2 e r := by
  obtain ⟨W, n, hs, hG, hH, hP⟩ := hI
  have h := hP.1.1
  by_cases c : 0 ≤ a ∧ a < nB W
  · have hv : inR (q_standby W a y) := by
      unfold q_standby
      have b0 := h.pl.b; have hV := h.v; have hW := h.w
      by_cases d0 : y = 0
      · rw [if_pos d0]; have v := h.v.2.2.2.1 a c.1 c.2; exact ⟨by omega, by omega⟩
      · rw [if_neg d0]
        by_cases d1 : y = 1
        · rw [if_pos d1]; have v := h.v.2.2.2.1 a c.1 c.2; exact clo_in ⟨by omega, by omega⟩
        · rw [if_neg d1]
          exact inRk rfl
    refine ⟨0, ul S 524 0 (q_standby W a y), q_standby W a y, _, ?_, m_standby (hP.out (Off.wtl (by omega) (by omega))).1.2 hG hi_a hi_y c, fin0 hG hH hP hv⟩
    unfold fn_Law_standby
    rw [c_standby h hG hi_a hi_y c]; rfl
  · refine ⟨1, S, 0, u (u S 514 4 0) 514 4 1, ?_, ?_, fin1 hG hH hP (.inl rfl)⟩
    · unfold fn_Law_standby fn_FP_standby
      rw [F_needStandby h, if_neg c]; rfl
    · have hM1 : MV (u S 514 4 0) W := hP.1.2.thr
      have eA : fn_Mo_isStandby 514 a (u S 514 4 0) = some false := by rw [Mo_isStandby hM1, decide_eq_false c]
      unfold fn_Mo_standby
      simp only [nm_x, eA, bnO_s, Mo_thr1, if_true, if_false, Bool.false_eq_true]
def q_page (W : Vw) (a y : Int) : Int := if y = 0 then a / 2 else if y = 1 then (a - 1) / pe W else if y = 2 then fOf W a else if y = 3 then lf W a else if y = 4 then adsO W a else if y = 5 then stOn W a (-1) else if y = 6 then stbO W a else -1
theorem c_page (h : PT S 5 W) (hG : Good W) {a : Int} {y : Int} (hi_a : inR a) (hi_y : inR y) (c : 1 ≤ a ∧ a ≤ pgs W) : fn_FP_page 0 a y S = some (0, q_page W a y) := by
  unfold fn_FP_page q_page
  rw [F_needPage h, if_pos c, bnO_s, if_pos rfl]
  by_cases d0 : y = 0
  · rw [if_pos d0, if_pos d0]
    have b0 := h.pl.b
    rw [td_n (by omega), wr_s (by omega) (by omega)]
  · rw [if_neg d0, if_neg d0]
    by_cases d1 : y = 1
    · rw [if_pos d1, if_pos d1]
      simp only [tg_0_3, tg_5_4]
      have e : g S 29 a.toNat = (a - 1) / pe W := h.pl.sO c.1 c.2
      have b0 := h.pl.b
      rw [if_pos (by omega), e]
    · rw [if_neg d1, if_neg d1]
      by_cases d2 : y = 2
      · rw [if_pos d2, if_pos d2]
        simp only [tg_0_3, tg_5_3]
        have e : g S 28 a.toNat = fOf W a := h.pl.fo c.1 c.2
        have b0 := h.pl.b
        rw [if_pos (by omega), e]
      · rw [if_neg d2, if_neg d2]
        by_cases d3 : y = 3
        · rw [if_pos d3, if_pos d3]
          simp only [tg_0_3, tg_5_5]
          have e : g S 30 a.toNat = lf W a := h.l c.1 c.2
          have b0 := h.pl.b
          rw [if_pos (by omega), e]
        · rw [if_neg d3, if_neg d3]
          by_cases d4 : y = 4
          · rw [if_pos d4, if_pos d4]
            simp only [tg_0_3, tg_5_0, tg_6_0, tg_7_6]
            have e : g S 7 7 = nA W := h.pl.mA
            rw [e, F_adsO h, bnO_s]
          · rw [if_neg d4, if_neg d4]
            by_cases d5 : y = 5
            · rw [if_pos d5, if_pos d5]
              simp only [tg_0_3, tg_5_6]
              have e : g S 31 a.toNat = stOn W a (-1) := h.s c.1 c.2
              have b0 := h.pl.b
              rw [if_pos (by omega), e]
            · rw [if_neg d5, if_neg d5]
              by_cases d6 : y = 6
              · rw [if_pos d6, if_pos d6]
                simp only [tg_0_3, tg_5_0, tg_6_2, tg_21_1]
                have e : g S 21 2 = nB W := h.pl.mB
                rw [e, F_stbO h, bnO_s]
              · rw [if_neg d6, if_neg d6]
theorem m_page (hM : MV T W) (hG : Good W) {a : Int} {y : Int} (hi_a : inR a) (hi_y : inR y) (c : 1 ≤ a ∧ a ≤ pgs W) : fn_Mo_page 514 a y T = some (q_page W a y, u T 514 4 0) := by
  have hM1 : MV (u T 514 4 0) W := hM.thr
  have b := hM.b
  have eA : fn_Mo_isPage 514 a (u T 514 4 0) = some true := by rw [Mo_isPage hM1]; exact congrArg some (decide_eq_true c)
  unfold fn_Mo_page q_page
  simp only [nm_x, eA, bnO_s, Mo_thr0, if_true, if_false, Bool.false_eq_true]
  by_cases d0 : y = 0
  · rw [if_pos d0]
    rw [if_pos d0, td_n (by omega), wr_s (by omega) (by omega)]
  · rw [if_neg d0]
    by_cases d1 : y = 1
    · rw [if_pos d1]
      rw [if_neg d0, if_pos d1, hM1.mpe, if_pos (by omega), wr_s (z := a - 1) (by omega) (by omega), td_n (by omega), wr_s (by have := Int.ediv_nonneg (a := a - 1) (b := pe W) (by omega) (by omega); omega) (by have := Int.ediv_le_self (a := a - 1) (pe W) (by omega); omega)]
    · rw [if_neg d1]
      by_cases d2 : y = 2
      · rw [if_pos d2]
        rw [if_neg d0, if_neg d1, if_pos d2, Mo_formOf hM1 c.1 (by omega), bnO_s]
      · rw [if_neg d2]
        by_cases d3 : y = 3
        · rw [if_pos d3]
          rw [if_neg d0, if_neg d1, if_neg d2, if_pos d3, Mo_left hM1, bnO_s]; rfl
        · rw [if_neg d3]
          by_cases d4 : y = 4
          · rw [if_pos d4]
            rw [if_neg d0, if_neg d1, if_neg d2, if_neg d3, if_pos d4, Mo_adsOn hM1, bnO_s]
          · rw [if_neg d4]
            by_cases d5 : y = 5
            · rw [if_pos d5]
              rw [if_neg d0, if_neg d1, if_neg d2, if_neg d3, if_neg d4, if_pos d5, Mo_storyOn hM1, bnO_s]
            · rw [if_neg d5]
              by_cases d6 : y = 6
              · rw [if_pos d6]
                rw [if_neg d0, if_neg d1, if_neg d2, if_neg d3, if_neg d4, if_neg d5, if_pos d6, Mo_standbysOn hM1, bnO_s]
              · rw [if_neg d6]
                rw [if_neg d0, if_neg d1, if_neg d2, if_neg d3, if_neg d4, if_neg d5, if_neg d6]
theorem ok_page (hI : Inv S) {a : Int} {y : Int} (hi_a : inR a) (hi_y : inR y) : ∃ e S1 r S2, fn_Law_page 0 a y 524 S = some (e, S1) ∧ fn_Mo_page 514 a y S1 = some (r, S2) ∧ Fin S2 e r := by
  obtain ⟨W, n, hs, hG, hH, hP⟩ := hI
  have h := hP.1.1
  by_cases c : 1 ≤ a ∧ a ≤ pgs W
  · have hv : inR (q_page W a y) := by
      unfold q_page
      have b0 := h.pl.b; have hV := h.v; have hW := h.w
      by_cases d0 : y = 0
      · rw [if_pos d0]; exact ⟨by omega, by omega⟩
      · rw [if_neg d0]
        by_cases d1 : y = 1
        · rw [if_pos d1]; exact ⟨by have := Int.ediv_nonneg (a := a - 1) (b := pe W) (by omega) (by omega); omega, by have := Int.ediv_le_self (a := a - 1) (pe W) (by omega); omega⟩
        · rw [if_neg d1]
          by_cases d2 : y = 2
          · rw [if_pos d2]; have q := fOf_b h.v c.1 c.2; have z := h.v.z; exact ⟨by omega, by omega⟩
          · rw [if_neg d2]
            by_cases d3 : y = 3
            · rw [if_pos d3]; have q := lf_bd h.v h.w c.1 c.2; exact ⟨by omega, by omega⟩
            · rw [if_neg d3]
              by_cases d4 : y = 4
              · rw [if_pos d4]; exact wr_in _
              · rw [if_neg d4]
                by_cases d5 : y = 5
                · rw [if_pos d5]; have z := h.v.z; exact (stOn_spec h.v (p := a) (but := -1)).elim (fun q => by rw [q.1]; exact inRk rfl) (fun q => ⟨by omega, by omega⟩)
                · rw [if_neg d5]
                  by_cases d6 : y = 6
                  · rw [if_pos d6]; exact wr_in _
                  · rw [if_neg d6]
                    exact inRk rfl
    refine ⟨0, ul S 524 0 (q_page W a y), q_page W a y, _, ?_, m_page (hP.out (Off.wtl (by omega) (by omega))).1.2 hG hi_a hi_y c, fin0 hG hH hP hv⟩
    unfold fn_Law_page
    rw [c_page h hG hi_a hi_y c]; rfl
  · refine ⟨1, S, 0, u (u S 514 4 0) 514 4 1, ?_, ?_, fin1 hG hH hP (.inl rfl)⟩
    · unfold fn_Law_page fn_FP_page
      rw [F_needPage h, if_neg c]; rfl
    · have hM1 : MV (u S 514 4 0) W := hP.1.2.thr
      have eA : fn_Mo_isPage 514 a (u S 514 4 0) = some false := by rw [Mo_isPage hM1]; exact congrArg some (decide_eq_false c)
      unfold fn_Mo_page
      simp only [nm_x, eA, bnO_s, Mo_thr1, if_true, if_false, Bool.false_eq_true]
def q_form (W : Vw) (a y : Int) : Int := if y = 0 then at_ W 14 a else if y = 1 then at_ W 15 a else if y = 2 then at_ W 16 a else if y = 3 then pe W / 2 else if y = 4 then lefF W a else if y = 5 then adsF W a else if y = 6 then latF W a else if y = 7 then (if hasC W a = true then 1 else 0) else -1
theorem c_form (h : PT S 5 W) (hG : Good W) {a : Int} {y : Int} (hi_a : inR a) (hi_y : inR y) (c : 0 ≤ a ∧ a < frm W) : fn_FP_form 0 a y S = some (0, q_form W a y) := by
  unfold fn_FP_form q_form
  rw [F_needForm h, if_pos c, bnO_s, if_pos rfl]
  by_cases d0 : y = 0
  · rw [if_pos d0, if_pos d0]
    simp only [tg_0_3, tg_5_0, tg_6_3, tg_24_0]
    have e : g S 25 a.toNat = at_ W 14 a := h.pl.f0 c
    have fb := frm_b h.v
    rw [if_pos (by omega), e]
  · rw [if_neg d0, if_neg d0]
    by_cases d1 : y = 1
    · rw [if_pos d1, if_pos d1]
      simp only [tg_0_3, tg_5_0, tg_6_3, tg_24_1]
      have e : g S 26 a.toNat = at_ W 15 a := h.pl.f1 c
      have fb := frm_b h.v
      rw [if_pos (by omega), e]
    · rw [if_neg d1, if_neg d1]
      by_cases d2 : y = 2
      · rw [if_pos d2, if_pos d2]
        simp only [tg_0_3, tg_5_0, tg_6_3, tg_24_2]
        have e : clo (g S 27 a.toNat) = at_ W 16 a := h.pl.cl c
        have fb := frm_b h.v
        rw [if_pos (by omega), F_orNone, bnO_s, e]
      · rw [if_neg d2, if_neg d2]
        by_cases d3 : y = 3
        · rw [if_pos d3, if_pos d3]
          simp only [tg_0_3, tg_5_0]
          have e : g S 6 5 = pe W := h.pl.mpe
          have b0 := h.pl.b
          rw [e, td_n (by omega), wr_s (by omega) (by omega)]
        · rw [if_neg d3, if_neg d3]
          by_cases d4 : y = 4
          · rw [if_pos d4, if_pos d4]
            rw [tg_0_3, P_leftOnForm h, bnO_s]
          · rw [if_neg d4, if_neg d4]
            by_cases d5 : y = 5
            · rw [if_pos d5, if_pos d5]
              rw [tg_0_3, P_adsOnForm h.pl c.1, bnO_s]
            · rw [if_neg d5, if_neg d5]
              by_cases d6 : y = 6
              · rw [if_pos d6, if_pos d6]
                rw [tg_0_3, P_lateOnForm h.pl c.1, bnO_s]
              · rw [if_neg d6, if_neg d6]
                by_cases d7 : y = 7
                · rw [if_pos d7, if_pos d7]
                  rw [tg_0_3, P_hasColorItem h.pl c.1, bnO_s]
                  cases hasC W a <;> rfl
                · rw [if_neg d7, if_neg d7]
theorem m_form (hM : MV T W) (hG : Good W) {a : Int} {y : Int} (hi_a : inR a) (hi_y : inR y) (c : 0 ≤ a ∧ a < frm W) : fn_Mo_form 514 a y T = some (q_form W a y, u T 514 4 0) := by
  have hM1 : MV (u T 514 4 0) W := hM.thr
  have b := hM.b
  have eA : fn_Mo_isForm 514 a (u T 514 4 0) = some true := by rw [Mo_isForm hM1, decide_eq_true c]
  unfold fn_Mo_form q_form
  simp only [nm_x, eA, bnO_s, Mo_thr0, if_true, if_false, Bool.false_eq_true]
  by_cases d0 : y = 0
  · rw [if_pos d0]
    have e : fn_Mo_ofForm 514 a 0 (u T 514 4 0) = some (at_ W 14 a) := Mo_ofForm hM1 (k := 0) (by omega) c
    rw [if_pos d0, d0, e]; rfl
  · rw [if_neg d0]
    by_cases d1 : y = 1
    · rw [if_pos d1]
      have e : fn_Mo_ofForm 514 a 1 (u T 514 4 0) = some (at_ W 15 a) := Mo_ofForm hM1 (k := 1) (by omega) c
      rw [if_neg d0, if_pos d1, d1, e]; rfl
    · rw [if_neg d1]
      by_cases d2 : y = 2
      · rw [if_pos d2]
        have e : fn_Mo_ofForm 514 a 2 (u T 514 4 0) = some (at_ W 16 a) := Mo_ofForm hM1 (k := 2) (by omega) c
        rw [if_neg d0, if_neg d1, if_pos d2, d2, e]; rfl
      · rw [if_neg d2]
        by_cases d3 : y = 3
        · rw [if_pos d3]
          rw [if_neg d0, if_neg d1, if_neg d2, if_pos d3, hM1.mpe, td_n (by omega), wr_s (by omega) (by omega)]
        · rw [if_neg d3]
          by_cases d4 : y = 4
          · rw [if_pos d4]
            rw [if_neg d0, if_neg d1, if_neg d2, if_neg d3, if_pos d4, Mo_leftOnForm hM1, bnO_s]
          · rw [if_neg d4]
            by_cases d5 : y = 5
            · rw [if_pos d5]
              rw [if_neg d0, if_neg d1, if_neg d2, if_neg d3, if_neg d4, if_pos d5, Mo_adsOnForm hM1, bnO_s]
            · rw [if_neg d5]
              by_cases d6 : y = 6
              · rw [if_pos d6]
                rw [if_neg d0, if_neg d1, if_neg d2, if_neg d3, if_neg d4, if_neg d5, if_pos d6, Mo_lateOnForm hM1, bnO_s]
              · rw [if_neg d6]
                by_cases d7 : y = 7
                · rw [if_pos d7]
                  rw [if_neg d0, if_neg d1, if_neg d2, if_neg d3, if_neg d4, if_neg d5, if_neg d6, if_pos d7, Mo_hasColored hM1, bnO_s]
                  cases hasC W a <;> rfl
                · rw [if_neg d7]
                  rw [if_neg d0, if_neg d1, if_neg d2, if_neg d3, if_neg d4, if_neg d5, if_neg d6, if_neg d7]
theorem ok_form (hI : Inv S) {a : Int} {y : Int} (hi_a : inR a) (hi_y : inR y) : ∃ e S1 r S2, fn_Law_form 0 a y 524 S = some (e, S1) ∧ fn_Mo_form 514 a y S1 = some (r, S2) ∧ Fin S2 e r := by
  obtain ⟨W, n, hs, hG, hH, hP⟩ := hI
  have h := hP.1.1
  by_cases c : 0 ≤ a ∧ a < frm W
  · have hv : inR (q_form W a y) := by
      unfold q_form
      have b0 := h.pl.b; have hV := h.v; have hW := h.w
      by_cases d0 : y = 0
      · rw [if_pos d0]; have v := h.v.2.2.2.2 a c.1 c.2; exact ⟨by omega, by omega⟩
      · rw [if_neg d0]
        by_cases d1 : y = 1
        · rw [if_pos d1]; have v := h.v.2.2.2.2 a c.1 c.2; exact ⟨by omega, by omega⟩
        · rw [if_neg d1]
          by_cases d2 : y = 2
          · rw [if_pos d2]; have v := h.v.2.2.2.2 a c.1 c.2; exact ⟨by omega, by omega⟩
          · rw [if_neg d2]
            by_cases d3 : y = 3
            · rw [if_pos d3]; exact ⟨by omega, by omega⟩
            · rw [if_neg d3]
              by_cases d4 : y = 4
              · rw [if_pos d4]; exact wr_in _
              · rw [if_neg d4]
                by_cases d5 : y = 5
                · rw [if_pos d5]; exact wr_in _
                · rw [if_neg d5]
                  by_cases d6 : y = 6
                  · rw [if_pos d6]; exact wr_in _
                  · rw [if_neg d6]
                    by_cases d7 : y = 7
                    · rw [if_pos d7]; split <;> exact inRk rfl
                    · rw [if_neg d7]
                      exact inRk rfl
    refine ⟨0, ul S 524 0 (q_form W a y), q_form W a y, _, ?_, m_form (hP.out (Off.wtl (by omega) (by omega))).1.2 hG hi_a hi_y c, fin0 hG hH hP hv⟩
    unfold fn_Law_form
    rw [c_form h hG hi_a hi_y c]; rfl
  · refine ⟨1, S, 0, u (u S 514 4 0) 514 4 1, ?_, ?_, fin1 hG hH hP (.inl rfl)⟩
    · unfold fn_Law_form fn_FP_form
      rw [F_needForm h, if_neg c]; rfl
    · have hM1 : MV (u S 514 4 0) W := hP.1.2.thr
      have eA : fn_Mo_isForm 514 a (u S 514 4 0) = some false := by rw [Mo_isForm hM1, decide_eq_false c]
      unfold fn_Mo_form
      simp only [nm_x, eA, bnO_s, Mo_thr1, if_true, if_false, Bool.false_eq_true]
end Reads
