section Reads
variable {S T : St} {W : Vw} {n : Int} {hs : Int → Vw}
/-! what is asked first -/
theorem F_needAd (h : PT S 5 W) {a : Int} : fn_FP_needAd 0 a S = some (if 0 ≤ a ∧ a < nA W then 0 else 1) := by
  have e : g S 7 7 = nA W := h.pl.mA
  unfold fn_FP_needAd
  simp only [tg_0_3, tg_5_0, tg_6_0, e]
  by_cases c1 : a < 0
  · rw [if_pos c1, if_neg (by omega)]
  · rw [if_neg c1]
    by_cases c2 : a < nA W
    · rw [if_pos c2, if_pos (by omega)]
    · rw [if_neg c2, if_neg (by omega)]
theorem F_needStory (h : PT S 5 W) {a : Int} : fn_FP_needStory 0 a S = some (if 0 ≤ a ∧ a < nS W then 0 else 1) := by
  have e : g S 15 5 = nS W := h.pl.mS
  unfold fn_FP_needStory
  simp only [tg_0_3, tg_5_0, tg_6_1, e]
  by_cases c1 : a < 0
  · rw [if_pos c1, if_neg (by omega)]
  · rw [if_neg c1]
    by_cases c2 : a < nS W
    · rw [if_pos c2, if_pos (by omega)]
    · rw [if_neg c2, if_neg (by omega)]
theorem F_needStandby (h : PT S 5 W) {a : Int} : fn_FP_needStandby 0 a S = some (if 0 ≤ a ∧ a < nB W then 0 else 1) := by
  have e : g S 21 2 = nB W := h.pl.mB
  unfold fn_FP_needStandby
  simp only [tg_0_3, tg_5_0, tg_6_2, e]
  by_cases c1 : a < 0
  · rw [if_pos c1, if_neg (by omega)]
  · rw [if_neg c1]
    by_cases c2 : a < nB W
    · rw [if_pos c2, if_pos (by omega)]
    · rw [if_neg c2, if_neg (by omega)]
theorem F_needForm (h : PT S 5 W) {a : Int} : fn_FP_needForm 0 a S = some (if 0 ≤ a ∧ a < frm W then 0 else 1) := by
  have e : g S 5 2 = frm W := h.pl.gf
  unfold fn_FP_needForm
  simp only [tg_0_3, e]
  by_cases c1 : a < 0
  · rw [if_pos c1, if_neg (by omega)]
  · rw [if_neg c1]
    by_cases c2 : a < frm W
    · rw [if_pos c2, if_pos (by omega)]
    · rw [if_neg c2, if_neg (by omega)]
theorem F_needPage (h : PT S 5 W) {a : Int} : fn_FP_needPage 0 a S = some (if 1 ≤ a ∧ a ≤ pgs W then 0 else 1) := by
  unfold fn_FP_needPage
  rw [tg_0_3, P_hasPage h.pl, bnO_s]
  unfold isP
  by_cases c : 1 ≤ a ∧ a ≤ pgs W
  · rw [decide_eq_true c, if_pos rfl, if_pos c]
  · rw [decide_eq_false c, if_neg Bool.false_ne_true, if_neg c]
theorem F_needGroup {a : Int} : fn_FP_needGroup a S = some (if 0 ≤ a ∧ a ≤ 9 then 0 else 2) := by
  unfold fn_FP_needGroup
  by_cases c1 : a < 0
  · rw [if_pos c1, if_neg (by omega)]
  · rw [if_neg c1]
    by_cases c2 : a < 10
    · rw [if_pos c2, if_pos (by omega)]
    · rw [if_neg c2, if_neg (by omega)]
theorem F_orNone {z : Int} : fn_FP_orNone z S = some (clo z) := by
  unfold fn_FP_orNone clo
  split <;> rfl
theorem clo_in {z : Int} (h : inR z) : inR (clo z) := by
  unfold clo
  split
  · exact inRk rfl
  · exact h
theorem F_placed {N c : Nat} {m : Int} (h1 : 0 ≤ m) (h2 : m ≤ (N : Int)) (hN : N ≤ 999) : fn_FP_placed N c m S = some (wr (sumR (fun i => if g S c i.toNat = 0 then 0 else 1) 0 m.toNat)) := by
  have q := lp_sum (body := fun go p0 => lb_FP_placed_4 N c m S go p0.1 p0.2) (fun i => if g S c i.toNat = 0 then 0 else 1) 0 m
    (fun go a i hi => by
      show lb_FP_placed_4 N c m S go a i = _
      unfold lb_FP_placed_4
      rw [if_pos hi])
    (fun go a i ha h1 hi => by
      show lb_FP_placed_4 N c m S go a i = _
      unfold lb_FP_placed_4
      rw [if_neg (by omega), if_neg (by omega), if_pos (by omega), nm_x, nm_x, nm_x, wr_s (by omega) (by omega)]
      by_cases d : g S c i.toNat = 0
      · rw [if_pos d, if_pos d, Int.add_zero, wr_id ha]
      · rw [if_neg d, if_neg d]) (n := FU) (a := 0) (inRk rfl) (FU_lt (by omega))
  unfold fn_FP_placed
  have q2 : lo_FP_placed_4 N c m S FU (0, 0) = _ := q
  rw [q2, bnO_s, Int.zero_add, Int.sub_zero]
theorem F_standing {N c : Nat} {m p : Int} (h1 : 0 ≤ m) (h2 : m ≤ (N : Int)) (hN : N ≤ 999) : fn_FP_standing N c m p S = some (wr (sumR (fun i => if g S c i.toNat = p then 1 else 0) 0 m.toNat)) := by
  have q := lp_sum (body := fun go p0 => lb_FP_standing_5 N c m p S go p0.1 p0.2) (fun i => if g S c i.toNat = p then 1 else 0) 0 m
    (fun go a i hi => by
      show lb_FP_standing_5 N c m p S go a i = _
      unfold lb_FP_standing_5
      rw [if_pos hi])
    (fun go a i ha h1 hi => by
      show lb_FP_standing_5 N c m p S go a i = _
      unfold lb_FP_standing_5
      rw [if_neg (by omega), if_neg (by omega), if_pos (by omega), nm_x, nm_x, nm_x, wr_s (z := i + 1) (by omega) (by omega)]
      by_cases d : g S c i.toNat = p
      · rw [if_pos d, if_pos d]
      · rw [if_neg d, if_neg d, Int.add_zero, wr_id ha]) (n := FU) (a := 0) (inRk rfl) (FU_lt (by omega))
  unfold fn_FP_standing
  have q2 : lo_FP_standing_5 N c m p S FU (0, 0) = _ := q
  rw [q2, bnO_s, Int.zero_add, Int.sub_zero]
theorem F_adsO (h : PT S 5 W) {p : Int} : fn_FP_standing 40 14 (nA W) p S = some (adsO W p) := by
  have b := h.pl.b
  rw [F_standing (by omega) (by omega) (by decide)]
  refine congrArg (fun z => some (wr z)) (sumR_congr (fun j h1 h2 => ?_))
  have e : g S 14 j.toNat = at_ W 6 j := h.pl.a6 ⟨h1, by omega⟩
  rw [e]
theorem F_stbO (h : PT S 5 W) {p : Int} : fn_FP_standing 8 23 (nB W) p S = some (stbO W p) := by
  have b := h.pl.b
  rw [F_standing (by omega) (by omega) (by decide)]
  refine congrArg (fun z => some (wr z)) (sumR_congr (fun j h1 h2 => ?_))
  have e : g S 23 j.toNat = at_ W 13 j := h.pl.b1 ⟨h1, by omega⟩
  rw [e]
/-! the calls -/
theorem c_reason (h : PT S 5 W) (hG : Good W) {a : Int} {p : Int} (hi_a : inR a) (hi_p : inR p) (c : 0 ≤ a ∧ a < nA W) : fn_FP_reason 0 a p S = some (0, reas W a p) := by
  unfold fn_FP_reason
  rw [F_needAd h, if_pos c, bnO_s, if_pos rfl, tg_0_3, P_adReason h c, bnO_s]
def chcs (W : Vw) (a : Int) : Int := wr (sumP W (fun q => if reas W a q = 0 then 1 else 0))
theorem P_pagesFor (h : PT S 5 W) {x : Int} (hx : 0 ≤ x ∧ x < nA W) : fn_Searches_pagesFor 505 x S = some (chcs W x) := by
  have b := h.pl.b
  have q := lp_sum (body := fun go p0 => lb_Searches_pagesFor_4 505 x S go p0.1 p0.2) (fun q => if reas W x q = 0 then 1 else 0) 1 (pgs W + 1)
    (fun go a i hi => by
      show lb_Searches_pagesFor_4 505 x S go a i = _
      unfold lb_Searches_pagesFor_4
      simp only [tg_505_0, h.pl.gp]
      rw [if_pos (by omega)])
    (fun go a i ha h1 hi => by
      show lb_Searches_pagesFor_4 505 x S go a i = _
      unfold lb_Searches_pagesFor_4
      simp only [tg_505_0, h.pl.gp, P_adReason h hx, bnO_s, nm_x, wr_s (z := i + 1) (by omega) (by omega)]
      rw [if_neg (by omega)]
      by_cases d : reas W x i = 0
      · rw [if_pos d, if_pos d]
      · rw [if_neg d, if_neg d, Int.add_zero, wr_id ha]) (n := FU) (a := 0) (inRk rfl) (FU_lt (by omega))
  simp only [Int.add_sub_cancel] at q
  unfold fn_Searches_pagesFor chcs
  have q2 : lo_Searches_pagesFor_4 505 x S FU (0, 1) = _ := q
  rw [q2, bnO_s, Int.zero_add]; rfl
theorem c_choices (h : PT S 5 W) (hG : Good W) {a : Int} (hi_a : inR a) (c : 0 ≤ a ∧ a < nA W) : fn_FP_choices 0 a S = some (0, chcs W a) := by
  unfold fn_FP_choices
  rw [F_needAd h, if_pos c, bnO_s, if_pos rfl, tg_0_2, P_pagesFor h c, bnO_s]
def fstP (W : Vw) (a p : Int) : Int := fstR (fun q => decide (reas W a q = 0)) (i_max p 1) (pgs W + 1 - i_max p 1).toNat
theorem P_firstFor (h : PT S 5 W) {x p : Int} (hx : 0 ≤ x ∧ x < nA W) (hp : inR p) : fn_Plan_firstFor 5 x p S = some (fstP W x p) := by
  have b := h.pl.b
  have hm : 1 ≤ i_max p 1 := by unfold i_max; split <;> omega
  have q := lp_fst (body := fun go p0 => lb_Plan_firstFor_6 5 x S go p0) (fun q => decide (reas W x q = 0)) (fun i => i) (i_max p 1) (pgs W + 1)
    (fun go i hi => by
      show lb_Plan_firstFor_6 5 x S go i = _
      unfold lb_Plan_firstFor_6
      rw [h.pl.gp, if_pos (by omega)])
    (fun go i h1 hi => by
      show lb_Plan_firstFor_6 5 x S go i = _
      unfold lb_Plan_firstFor_6
      rw [h.pl.gp, if_neg (by omega), P_adReason h hx, bnO_s, nm_x, wr_s (by omega) (by omega)]
      by_cases d : reas W x i = 0
      · rw [if_pos d, if_pos (decide_eq_true d)]
      · rw [if_neg d, if_neg (by rw [decide_eq_true_eq]; exact d)]) (n := FU) (by omega) (FU_lt (by omega))
  unfold fn_Plan_firstFor fstP
  have q2 : lo_Plan_firstFor_6 5 x S FU (i_max p 1) = _ := q
  rw [q2]
  split
  · rename_i d; rw [d]; rfl
  · rfl
theorem c_firstPage (h : PT S 5 W) (hG : Good W) {a : Int} {p : Int} (hi_a : inR a) (hi_p : inR p) (c : 0 ≤ a ∧ a < nA W) : fn_FP_firstPage 0 a p S = some (0, fstP W a p) := by
  unfold fn_FP_firstPage
  rw [F_needAd h, if_pos c, bnO_s, if_pos rfl, tg_0_3, P_firstFor h c hi_p, bnO_s]
def q_ad (W : Vw) (a y : Int) : Int := if y = 0 then at_ W 0 a else if y = 1 then at_ W 1 a else if y = 2 then at_ W 2 a else if y = 3 then at_ W 3 a else if y = 4 then at_ W 4 a else if y = 5 then at_ W 5 a else if y = 6 then clo (at_ W 6 a) else if y = 7 then (if laA W a = true then 1 else 0) else -1
theorem c_ad (h : PT S 5 W) (hG : Good W) {a : Int} {y : Int} (hi_a : inR a) (hi_y : inR y) (c : 0 ≤ a ∧ a < nA W) : fn_FP_ad 0 a y S = some (0, q_ad W a y) := by
  unfold fn_FP_ad q_ad
  rw [F_needAd h, if_pos c, bnO_s, if_pos rfl]
  by_cases d0 : y = 0
  · rw [if_pos d0, if_pos d0]
    simp only [tg_0_3, tg_5_0, tg_6_0, tg_7_0]
    have e : g S 8 a.toNat = at_ W 0 a := h.pl.a0 c
    have b0 := h.pl.b
    rw [if_pos (by omega), e]
  · rw [if_neg d0, if_neg d0]
    by_cases d1 : y = 1
    · rw [if_pos d1, if_pos d1]
      simp only [tg_0_3, tg_5_0, tg_6_0, tg_7_1]
      have e : g S 9 a.toNat = at_ W 1 a := h.pl.a1 c
      have b0 := h.pl.b
      rw [if_pos (by omega), e]
    · rw [if_neg d1, if_neg d1]
      by_cases d2 : y = 2
      · rw [if_pos d2, if_pos d2]
        simp only [tg_0_3, tg_5_0, tg_6_0, tg_7_2]
        have e : g S 10 a.toNat = at_ W 2 a := h.pl.a2 c
        have b0 := h.pl.b
        rw [if_pos (by omega), e]
      · rw [if_neg d2, if_neg d2]
        by_cases d3 : y = 3
        · rw [if_pos d3, if_pos d3]
          simp only [tg_0_3, tg_5_0, tg_6_0, tg_7_3]
          have e : g S 11 a.toNat = at_ W 3 a := h.pl.a3 c
          have b0 := h.pl.b
          rw [if_pos (by omega), e]
        · rw [if_neg d3, if_neg d3]
          by_cases d4 : y = 4
          · rw [if_pos d4, if_pos d4]
            simp only [tg_0_3, tg_5_0, tg_6_0, tg_7_4]
            have e : g S 12 a.toNat = at_ W 4 a := h.pl.a4 c
            have b0 := h.pl.b
            rw [if_pos (by omega), e]
          · rw [if_neg d4, if_neg d4]
            by_cases d5 : y = 5
            · rw [if_pos d5, if_pos d5]
              simp only [tg_0_3, tg_5_0, tg_6_0, tg_7_5]
              have e : g S 13 a.toNat = at_ W 5 a := h.pl.a5 c
              have b0 := h.pl.b
              rw [if_pos (by omega), e]
            · rw [if_neg d5, if_neg d5]
              by_cases d6 : y = 6
              · rw [if_pos d6, if_pos d6]
                simp only [tg_0_3, tg_5_0, tg_6_0, tg_7_6]
                have e : g S 14 a.toNat = at_ W 6 a := h.pl.a6 c
                have b0 := h.pl.b
                rw [if_pos (by omega), e, F_orNone, bnO_s]
              · rw [if_neg d6, if_neg d6]
                by_cases d7 : y = 7
                · rw [if_pos d7, if_pos d7]
                  simp only [tg_0_3, tg_5_0, tg_6_0, tg_7_5]
                  have e : g S 13 a.toNat = at_ W 5 a := h.pl.a5 c
                  have b0 := h.pl.b
                  rw [if_pos (by omega), e, P_isLate h.pl, bnO_s]
                  show (if laA W a = true then _ else _) = _
                  cases laA W a <;> rfl
                · rw [if_neg d7, if_neg d7]
def q_story (W : Vw) (a y : Int) : Int := if y = 0 then at_ W 7 a else if y = 1 then at_ W 8 a else if y = 2 then at_ W 9 a else if y = 3 then at_ W 10 a else if y = 4 then clo (at_ W 11 a) else if y = 5 then (if laS W a = true then 1 else 0) else -1
theorem c_story (h : PT S 5 W) (hG : Good W) {a : Int} {y : Int} (hi_a : inR a) (hi_y : inR y) (c : 0 ≤ a ∧ a < nS W) : fn_FP_story 0 a y S = some (0, q_story W a y) := by
  unfold fn_FP_story q_story
  rw [F_needStory h, if_pos c, bnO_s, if_pos rfl]
  by_cases d0 : y = 0
  · rw [if_pos d0, if_pos d0]
    simp only [tg_0_3, tg_5_0, tg_6_1, tg_15_0]
    have e : g S 16 a.toNat = at_ W 7 a := h.pl.s0 c
    have b0 := h.pl.b
    rw [if_pos (by omega), e]
  · rw [if_neg d0, if_neg d0]
    by_cases d1 : y = 1
    · rw [if_pos d1, if_pos d1]
      simp only [tg_0_3, tg_5_0, tg_6_1, tg_15_1]
      have e : g S 17 a.toNat = at_ W 8 a := h.pl.s1 c
      have b0 := h.pl.b
      rw [if_pos (by omega), e]
    · rw [if_neg d1, if_neg d1]
      by_cases d2 : y = 2
      · rw [if_pos d2, if_pos d2]
        simp only [tg_0_3, tg_5_0, tg_6_1, tg_15_2]
        have e : g S 18 a.toNat = at_ W 9 a := h.pl.s2 c
        have b0 := h.pl.b
        rw [if_pos (by omega), e]
      · rw [if_neg d2, if_neg d2]
        by_cases d3 : y = 3
        · rw [if_pos d3, if_pos d3]
          simp only [tg_0_3, tg_5_0, tg_6_1, tg_15_3]
          have e : g S 19 a.toNat = at_ W 10 a := h.pl.s3 c
          have b0 := h.pl.b
          rw [if_pos (by omega), e]
        · rw [if_neg d3, if_neg d3]
          by_cases d4 : y = 4
          · rw [if_pos d4, if_pos d4]
            simp only [tg_0_3, tg_5_0, tg_6_1, tg_15_4]
            have e : g S 20 a.toNat = at_ W 11 a := h.pl.s4 c
            have b0 := h.pl.b
            rw [if_pos (by omega), e, F_orNone, bnO_s]
          · rw [if_neg d4, if_neg d4]
            by_cases d5 : y = 5
            · rw [if_pos d5, if_pos d5]
              simp only [tg_0_3, tg_5_0, tg_6_1, tg_15_3]
              have e : g S 19 a.toNat = at_ W 10 a := h.pl.s3 c
              have b0 := h.pl.b
              rw [if_pos (by omega), e, P_isLate h.pl, bnO_s]
              show (if laS W a = true then _ else _) = _
              cases laS W a <;> rfl
            · rw [if_neg d5, if_neg d5]
def q_standby (W : Vw) (a y : Int) : Int := if y = 0 then at_ W 12 a else if y = 1 then clo (at_ W 13 a) else -1
theorem c_standby (h : PT S 5 W) (hG : Good W) {a : Int} {y : Int} (hi_a : inR a) (hi_y : inR y) (c : 0 ≤ a ∧ a < nB W) : fn_FP_standby 0 a y S = some (0, q_standby W a y) := by
  unfold fn_FP_standby q_standby
  rw [F_needStandby h, if_pos c, bnO_s, if_pos rfl]
  by_cases d0 : y = 0
  · rw [if_pos d0, if_pos d0]
    simp only [tg_0_3, tg_5_0, tg_6_2, tg_21_0]
    have e : g S 22 a.toNat = at_ W 12 a := h.pl.b0 c
    have b0 := h.pl.b
    rw [if_pos (by omega), e]
  · rw [if_neg d0, if_neg d0]
    by_cases d1 : y = 1
    · rw [if_pos d1, if_pos d1]
      simp only [tg_0_3, tg_5_0, tg_6_2, tg_21_1]
      have e : g S 23 a.toNat = at_ W 13 a := h.pl.b1 c
      have b0 := h.pl.b
      rw [if_pos (by omega), e, F_orNone, bnO_s]
    · rw [if_neg d1, if_neg d1]
def q_page (W : Vw) (a y : Int) : Int := if y = 0 then a / 2 else if y = 1 then (a - 1) / pe W else if y = 2 then fOf W a else if y = 3 then lf W a else if y = 4 then adsO W a else if y = 5 then stOn W a (-1) else if y = 6 then stbO W a else -1
theorem c_page (h : PT S 5 W) (hG : Good W) {a : Int} {y : Int} (hi_a : inR a) (hi_y : inR y) (c : 1 ≤ a ∧ a ≤ pgs W) : fn_FP_page 0 a y S = some (0, q_page W a y) := by
  unfold fn_FP_page q_page
  rw [F_needPage h, if_pos c, bnO_s, if_pos rfl]
  by_cases d0 : y = 0
  · rw [if_pos d0, if_pos d0]
    have b0 := h.pl.b
    rw [td_n (by omega), wr_s (by omega) (by omega)]
  · rw [if_neg d0, if_neg d0]
    by_cases d1 : y = 1
    · rw [if_pos d1, if_pos d1]
      simp only [tg_0_3, tg_5_4]
      have e : g S 29 a.toNat = (a - 1) / pe W := h.pl.sO c.1 c.2
      have b0 := h.pl.b
      rw [if_pos (by omega), e]
    · rw [if_neg d1, if_neg d1]
      by_cases d2 : y = 2
      · rw [if_pos d2, if_pos d2]
        simp only [tg_0_3, tg_5_3]
        have e : g S 28 a.toNat = fOf W a := h.pl.fo c.1 c.2
        have b0 := h.pl.b
        rw [if_pos (by omega), e]
      · rw [if_neg d2, if_neg d2]
        by_cases d3 : y = 3
        · rw [if_pos d3, if_pos d3]
          simp only [tg_0_3, tg_5_5]
          have e : g S 30 a.toNat = lf W a := h.l c.1 c.2
          have b0 := h.pl.b
          rw [if_pos (by omega), e]
        · rw [if_neg d3, if_neg d3]
          by_cases d4 : y = 4
          · rw [if_pos d4, if_pos d4]
            simp only [tg_0_3, tg_5_0, tg_6_0, tg_7_6]
            have e : g S 7 7 = nA W := h.pl.mA
            rw [e, F_adsO h, bnO_s]
          · rw [if_neg d4, if_neg d4]
            by_cases d5 : y = 5
            · rw [if_pos d5, if_pos d5]
              simp only [tg_0_3, tg_5_6]
              have e : g S 31 a.toNat = stOn W a (-1) := h.s c.1 c.2
              have b0 := h.pl.b
              rw [if_pos (by omega), e]
            · rw [if_neg d5, if_neg d5]
              by_cases d6 : y = 6
              · rw [if_pos d6, if_pos d6]
                simp only [tg_0_3, tg_5_0, tg_6_2, tg_21_1]
                have e : g S 21 2 = nB W := h.pl.mB
                rw [e, F_stbO h, bnO_s]
              · rw [if_neg d6, if_neg d6]
def q_form (W : Vw) (a y : Int) : Int := if y = 0 then at_ W 14 a else if y = 1 then at_ W 15 a else if y = 2 then at_ W 16 a else if y = 3 then pe W / 2 else if y = 4 then lefF W a else if y = 5 then adsF W a else if y = 6 then latF W a else if y = 7 then (if hasC W a = true then 1 else 0) else -1
theorem c_form (h : PT S 5 W) (hG : Good W) {a : Int} {y : Int} (hi_a : inR a) (hi_y : inR y) (c : 0 ≤ a ∧ a < frm W) : fn_FP_form 0 a y S = some (0, q_form W a y) := by
  unfold fn_FP_form q_form
  rw [F_needForm h, if_pos c, bnO_s, if_pos rfl]
  by_cases d0 : y = 0
  · rw [if_pos d0, if_pos d0]
    simp only [tg_0_3, tg_5_0, tg_6_3, tg_24_0]
    have e : g S 25 a.toNat = at_ W 14 a := h.pl.f0 c
    have fb := frm_b h.v
    rw [if_pos (by omega), e]
  · rw [if_neg d0, if_neg d0]
    by_cases d1 : y = 1
    · rw [if_pos d1, if_pos d1]
      simp only [tg_0_3, tg_5_0, tg_6_3, tg_24_1]
      have e : g S 26 a.toNat = at_ W 15 a := h.pl.f1 c
      have fb := frm_b h.v
      rw [if_pos (by omega), e]
    · rw [if_neg d1, if_neg d1]
      by_cases d2 : y = 2
      · rw [if_pos d2, if_pos d2]
        simp only [tg_0_3, tg_5_0, tg_6_3, tg_24_2]
        have e : clo (g S 27 a.toNat) = at_ W 16 a := h.pl.cl c
        have fb := frm_b h.v
        rw [if_pos (by omega), F_orNone, bnO_s, e]
      · rw [if_neg d2, if_neg d2]
        by_cases d3 : y = 3
        · rw [if_pos d3, if_pos d3]
          simp only [tg_0_3, tg_5_0]
          have e : g S 6 5 = pe W := h.pl.mpe
          have b0 := h.pl.b
          rw [e, td_n (by omega), wr_s (by omega) (by omega)]
        · rw [if_neg d3, if_neg d3]
          by_cases d4 : y = 4
          · rw [if_pos d4, if_pos d4]
            rw [tg_0_3, P_leftOnForm h, bnO_s]
          · rw [if_neg d4, if_neg d4]
            by_cases d5 : y = 5
            · rw [if_pos d5, if_pos d5]
              rw [tg_0_3, P_adsOnForm h.pl c.1, bnO_s]
            · rw [if_neg d5, if_neg d5]
              by_cases d6 : y = 6
              · rw [if_pos d6, if_pos d6]
                rw [tg_0_3, P_lateOnForm h.pl c.1, bnO_s]
              · rw [if_neg d6, if_neg d6]
                by_cases d7 : y = 7
                · rw [if_pos d7, if_pos d7]
                  rw [tg_0_3, P_hasColorItem h.pl c.1, bnO_s]
                  cases hasC W a <;> rfl
                · rw [if_neg d7, if_neg d7]
end Reads

