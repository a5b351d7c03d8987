section RefLoops
variable {S : St} {W : Vw}
def laA (W : Vw) (a : Int) : Bool := decide (tm W < at_ W 5 a)
def laS (W : Vw) (s : Int) : Bool := decide (tm W < at_ W 10 s)
def onF (W : Vw) (a f : Int) : Bool := decide (0 < at_ W 6 a ∧ fOf W (at_ W 6 a) = f)
def hasPg (W : Vw) (s f : Int) : Bool := anyP W (fun p => cov W s p && decide (fOf W p = f))
def stPr (W : Vw) (s : Int) : Bool := anyP W (fun p => cov W s p && prP W p)
def stOp (W : Vw) (s : Int) : Bool := anyP W (fun p => cov W s p && !prP W p)
def lf (W : Vw) (p : Int) : Int := lefO W p (-1) (-1)
def lefF (W : Vw) (f : Int) : Int := wr (sumP W (fun p => if fOf W p = f then lf W p else 0))
def adsF (W : Vw) (f : Int) : Int := wr (sumA W (fun a => if onF W a f = true then 1 else 0))
def latF (W : Vw) (f : Int) : Int := wr (sumA W (fun a => if onF W a f = true then (if laA W a = true then 1 else 0) else 0) + sumS W (fun s => if laS W s = true then (if hasPg W s f = true then 1 else 0) else 0))
def hasC (W : Vw) (f : Int) : Bool := anyA W (fun a => onF W a f && decide (at_ W 2 a = 1)) || anyS W (fun s => decide (at_ W 8 s = 1) && hasPg W s f)
def adsO (W : Vw) (p : Int) : Int := wr (sumA W (fun a => if at_ W 6 a = p then 1 else 0))
def stbO (W : Vw) (p : Int) : Int := wr (sumB W (fun b => if at_ W 13 b = p then 1 else 0))
def grp (W : Vw) (g s : Int) : Int := wr (sumA W (fun a => if at_ W 1 a = g then (if at_ W 6 a ≤ 0 then 0 else if at_ W 6 a / 2 = s then 1 else 0) else 0))
def revB (W : Vw) (g : Int) : Int := wr (sumA W (fun a => if at_ W 6 a ≤ 0 then 0 else if g = -1 then at_ W 4 a else if at_ W 1 a = g then at_ W 4 a else 0))
theorem Mo_isAdLate (hM : MV S W) {a : Int} (ha : 0 ≤ a ∧ a < nA W) : fn_Mo_isAdLate 514 a S = some (laA W a) := by
  have e5 : fn_Mo_ofAd 514 a 5 S = some (at_ W 5 a) := Mo_ofAd hM (k := 5) (by omega) ha
  unfold fn_Mo_isAdLate laA
  simp only [e5, bnO_s, tg_514_0, hM.mtm]
  split
  · rw [decide_eq_false (by omega)]
  · rw [decide_eq_true (by omega)]
theorem Mo_isStoryLate (hM : MV S W) {a : Int} (ha : 0 ≤ a ∧ a < nS W) : fn_Mo_isStoryLate 514 a S = some (laS W a) := by
  have e5 : fn_Mo_ofStory 514 a 3 S = some (at_ W 10 a) := Mo_ofStory hM (k := 3) (by omega) ha
  unfold fn_Mo_isStoryLate laS
  simp only [e5, bnO_s, tg_514_0, hM.mtm]
  split
  · rw [decide_eq_false (by omega)]
  · rw [decide_eq_true (by omega)]
theorem Mo_isAdOnForm (hM : MV S W) {a f : Int} (ha : 0 ≤ a ∧ a < nA W) : fn_Mo_isAdOnForm 514 a f S = some (onF W a f) := by
  have b := hM.b
  have v := hM.2.2.1 a ha.1 ha.2
  have e6 : fn_Mo_ofAd 514 a 6 S = some (at_ W 6 a) := Mo_ofAd hM (k := 6) (by omega) ha
  unfold fn_Mo_isAdOnForm onF
  simp only [e6, bnO_s]
  by_cases c : at_ W 6 a ≤ 0
  · rw [if_pos c, decide_eq_false (by omega)]
  · rw [if_neg c, Mo_formOf hM (by omega) (by omega), bnO_s]
    split
    · rename_i c2; rw [decide_eq_true ⟨by omega, c2⟩]
    · rename_i c2; rw [decide_eq_false (fun q => c2 q.2)]
theorem Mo_stPr0 (hM : MV S W) {s : Int} (hs : 0 ≤ s ∧ s < nS W) {z : Bool} : lo_Mo_isStoryPrinted_4 514 s S FU (bi z, 1) = some (bi (z || anyP W (fun p => cov W s p && prP W p))) := by
  have b := hM.b
  have q := lp_any (body := fun go p0 => lb_Mo_isStoryPrinted_4 514 s S go p0.1 p0.2) (fun p => cov W s p && prP W p) 1 (pgs W + 1)
    (fun go z i h => by
      show lb_Mo_isStoryPrinted_4 514 s S go z i = _
      unfold lb_Mo_isStoryPrinted_4
      simp only [Mo_pageMany hM, bnO_s]
      rw [if_pos (by omega)])
    (fun go z i h1 h2 => by
      show lb_Mo_isStoryPrinted_4 514 s S go (bi z) i = _
      have ec : fn_Mo_covers 514 s i S = some (cov W s i) := Mo_covers hM hs
      have ep : fn_Mo_isPrinted 514 i S = some (prP W i) := Mo_isPrinted hM ⟨h1, by omega⟩
      unfold lb_Mo_isStoryPrinted_4
      simp only [Mo_pageMany hM, bnO_s, nm_x, bnO_s, wr_s (z := i + 1) (by omega) (by omega), i_or_t, i_or_f, ec, ep]
      rw [if_neg (by omega)]
      repeat' split
      all_goals simp_all) (n := FU) (b := z) (FU_lt (by omega))
  simp only [Int.add_sub_cancel] at q
  exact q
theorem Mo_hasPg0 (hM : MV S W) {s : Int} (hs : 0 ≤ s ∧ s < nS W) {f : Int} {z : Bool} : lo_Mo_hasPageOn_5 514 s f S FU (bi z, 1) = some (bi (z || anyP W (fun p => cov W s p && decide (fOf W p = f)))) := by
  have b := hM.b
  have q := lp_any (body := fun go p0 => lb_Mo_hasPageOn_5 514 s f S go p0.1 p0.2) (fun p => cov W s p && decide (fOf W p = f)) 1 (pgs W + 1)
    (fun go z i h => by
      show lb_Mo_hasPageOn_5 514 s f S go z i = _
      unfold lb_Mo_hasPageOn_5
      simp only [Mo_pageMany hM, bnO_s]
      rw [if_pos (by omega)])
    (fun go z i h1 h2 => by
      show lb_Mo_hasPageOn_5 514 s f S go (bi z) i = _
      have ec : fn_Mo_covers 514 s i S = some (cov W s i) := Mo_covers hM hs
      have eo : fn_Mo_formOf 514 i S = some (fOf W i) := Mo_formOf hM h1 (by omega)
      unfold lb_Mo_hasPageOn_5
      simp only [Mo_pageMany hM, bnO_s, nm_x, bnO_s, wr_s (z := i + 1) (by omega) (by omega), i_or_t, i_or_f, ec, eo]
      rw [if_neg (by omega)]
      repeat' split
      all_goals simp_all) (n := FU) (b := z) (FU_lt (by omega))
  simp only [Int.add_sub_cancel] at q
  exact q
theorem Mo_isStoryPrinted (hM : MV S W) {s : Int} (hs : 0 ≤ s ∧ s < nS W) : fn_Mo_isStoryPrinted 514 s S = some (stPr W s) := by
  unfold fn_Mo_isStoryPrinted stPr
  have q := Mo_stPr0 hM hs (z := false)
  rw [bi_f, Bool.false_or] at q
  rw [q, bnO_s, if_pos bi_01, bi_d]
theorem Mo_hasPageOn (hM : MV S W) {s f : Int} (hs : 0 ≤ s ∧ s < nS W) : fn_Mo_hasPageOn 514 s f S = some (hasPg W s f) := by
  unfold fn_Mo_hasPageOn hasPg
  have q := Mo_hasPg0 hM hs (f := f) (z := false)
  rw [bi_f, Bool.false_or] at q
  rw [q, bnO_s, if_pos bi_01, bi_d]
theorem Mo_adsO0 (hM : MV S W) {p : Int} {a : Int} (ha : inR a) : lo_Mo_adsOn_4 514 p S FU (a, 0) = some (wr (a + sumA W (fun a => if at_ W 6 a = p then 1 else 0))) := by
  have b := hM.b
  have ef : frm W = 2 * sg W := rfl
  have q := lp_sum (body := fun go p0 => lb_Mo_adsOn_4 514 p S go p0.1 p0.2) (fun a => if at_ W 6 a = p then 1 else 0) 0 (nA W)
    (fun go a i h => by
      show lb_Mo_adsOn_4 514 p S go a i = _
      unfold lb_Mo_adsOn_4
      simp only [tg_514_0, hM.mA]
      rw [if_pos h])
    (fun go a i ha h1 h2 => by
      show lb_Mo_adsOn_4 514 p S go a i = _
      have e6 : fn_Mo_ofAd 514 i 6 S = some (at_ W 6 i) := Mo_ofAd hM (k := 6) (by omega) ⟨h1, h2⟩
      unfold lb_Mo_adsOn_4
      simp only [tg_514_0, hM.mA, nm_x, bnO_s, wr_s (z := i + 1) (by omega) (by omega), e6]
      rw [if_neg (by omega)]
      repeat' split
      all_goals first | contradiction | (exfalso; omega) | rfl | (rw [Int.add_zero, wr_id ha]) | (exfalso; simp_all; done)) (n := FU) (a := a) ha (FU_lt (by omega))
  simp only [Int.sub_zero] at q
  exact q
theorem Mo_stbO0 (hM : MV S W) {p : Int} {a : Int} (ha : inR a) : lo_Mo_standbysOn_4 514 p S FU (a, 0) = some (wr (a + sumB W (fun b => if at_ W 13 b = p then 1 else 0))) := by
  have b := hM.b
  have ef : frm W = 2 * sg W := rfl
  have q := lp_sum (body := fun go p0 => lb_Mo_standbysOn_4 514 p S go p0.1 p0.2) (fun b => if at_ W 13 b = p then 1 else 0) 0 (nB W)
    (fun go a i h => by
      show lb_Mo_standbysOn_4 514 p S go a i = _
      unfold lb_Mo_standbysOn_4
      simp only [tg_514_0, hM.mB]
      rw [if_pos h])
    (fun go a i ha h1 h2 => by
      show lb_Mo_standbysOn_4 514 p S go a i = _
      have e1 : fn_Mo_ofStandby 514 i 1 S = some (at_ W 13 i) := Mo_ofStandby hM (k := 1) (by omega) ⟨h1, h2⟩
      unfold lb_Mo_standbysOn_4
      simp only [tg_514_0, hM.mB, nm_x, bnO_s, wr_s (z := i + 1) (by omega) (by omega), e1]
      rw [if_neg (by omega)]
      repeat' split
      all_goals first | contradiction | (exfalso; omega) | rfl | (rw [Int.add_zero, wr_id ha]) | (exfalso; simp_all; done)) (n := FU) (a := a) ha (FU_lt (by omega))
  simp only [Int.sub_zero] at q
  exact q
theorem Mo_plA0 (hM : MV S W)  {a : Int} (ha : inR a) : lo_Mo_placedAds_4 514 S FU (a, 0) = some (wr (a + sumA W (fun a => if at_ W 6 a ≤ 0 then 0 else 1))) := by
  have b := hM.b
  have ef : frm W = 2 * sg W := rfl
  have q := lp_sum (body := fun go p0 => lb_Mo_placedAds_4 514 S go p0.1 p0.2) (fun a => if at_ W 6 a ≤ 0 then 0 else 1) 0 (nA W)
    (fun go a i h => by
      show lb_Mo_placedAds_4 514 S go a i = _
      unfold lb_Mo_placedAds_4
      simp only [tg_514_0, hM.mA]
      rw [if_pos h])
    (fun go a i ha h1 h2 => by
      show lb_Mo_placedAds_4 514 S go a i = _
      have e6 : fn_Mo_ofAd 514 i 6 S = some (at_ W 6 i) := Mo_ofAd hM (k := 6) (by omega) ⟨h1, h2⟩
      unfold lb_Mo_placedAds_4
      simp only [tg_514_0, hM.mA, nm_x, bnO_s, wr_s (z := i + 1) (by omega) (by omega), e6]
      rw [if_neg (by omega)]
      repeat' split
      all_goals first | contradiction | (exfalso; omega) | rfl | (rw [Int.add_zero, wr_id ha]) | (exfalso; simp_all; done)) (n := FU) (a := a) ha (FU_lt (by omega))
  simp only [Int.sub_zero] at q
  exact q
theorem Mo_plS0 (hM : MV S W)  {a : Int} (ha : inR a) : lo_Mo_placedStories_4 514 S FU (a, 0) = some (wr (a + sumS W (fun s => if at_ W 11 s ≤ 0 then 0 else 1))) := by
  have b := hM.b
  have ef : frm W = 2 * sg W := rfl
  have q := lp_sum (body := fun go p0 => lb_Mo_placedStories_4 514 S go p0.1 p0.2) (fun s => if at_ W 11 s ≤ 0 then 0 else 1) 0 (nS W)
    (fun go a i h => by
      show lb_Mo_placedStories_4 514 S go a i = _
      unfold lb_Mo_placedStories_4
      simp only [tg_514_0, hM.mS]
      rw [if_pos h])
    (fun go a i ha h1 h2 => by
      show lb_Mo_placedStories_4 514 S go a i = _
      have e4 : fn_Mo_ofStory 514 i 4 S = some (at_ W 11 i) := Mo_ofStory hM (k := 4) (by omega) ⟨h1, h2⟩
      unfold lb_Mo_placedStories_4
      simp only [tg_514_0, hM.mS, nm_x, bnO_s, wr_s (z := i + 1) (by omega) (by omega), e4]
      rw [if_neg (by omega)]
      repeat' split
      all_goals first | contradiction | (exfalso; omega) | rfl | (rw [Int.add_zero, wr_id ha]) | (exfalso; simp_all; done)) (n := FU) (a := a) ha (FU_lt (by omega))
  simp only [Int.sub_zero] at q
  exact q
theorem Mo_plB0 (hM : MV S W)  {a : Int} (ha : inR a) : lo_Mo_usedStandbys_4 514 S FU (a, 0) = some (wr (a + sumB W (fun b => if at_ W 13 b ≤ 0 then 0 else 1))) := by
  have b := hM.b
  have ef : frm W = 2 * sg W := rfl
  have q := lp_sum (body := fun go p0 => lb_Mo_usedStandbys_4 514 S go p0.1 p0.2) (fun b => if at_ W 13 b ≤ 0 then 0 else 1) 0 (nB W)
    (fun go a i h => by
      show lb_Mo_usedStandbys_4 514 S go a i = _
      unfold lb_Mo_usedStandbys_4
      simp only [tg_514_0, hM.mB]
      rw [if_pos h])
    (fun go a i ha h1 h2 => by
      show lb_Mo_usedStandbys_4 514 S go a i = _
      have e1 : fn_Mo_ofStandby 514 i 1 S = some (at_ W 13 i) := Mo_ofStandby hM (k := 1) (by omega) ⟨h1, h2⟩
      unfold lb_Mo_usedStandbys_4
      simp only [tg_514_0, hM.mB, nm_x, bnO_s, wr_s (z := i + 1) (by omega) (by omega), e1]
      rw [if_neg (by omega)]
      repeat' split
      all_goals first | contradiction | (exfalso; omega) | rfl | (rw [Int.add_zero, wr_id ha]) | (exfalso; simp_all; done)) (n := FU) (a := a) ha (FU_lt (by omega))
  simp only [Int.sub_zero] at q
  exact q
theorem Mo_foW1 (hM : MV S W)  {a : Int} (ha : inR a) : lo_Mo_formsWith_4 514 1 S FU (a, 0) = some (wr (a + sumR (fun f => at_ W 15 f) 0 (frm W).toNat)) := by
  have b := hM.b
  have ef : frm W = 2 * sg W := rfl
  have q := lp_sum (body := fun go p0 => lb_Mo_formsWith_4 514 1 S go p0.1 p0.2) (fun f => at_ W 15 f) 0 (frm W)
    (fun go a i h => by
      show lb_Mo_formsWith_4 514 1 S go a i = _
      unfold lb_Mo_formsWith_4
      simp only [Mo_formMany hM, bnO_s]
      rw [if_pos h])
    (fun go a i ha h1 h2 => by
      show lb_Mo_formsWith_4 514 1 S go a i = _
      have e1 : fn_Mo_ofForm 514 i 1 S = some (at_ W 15 i) := Mo_ofForm hM (k := 1) (by omega) ⟨h1, h2⟩
      unfold lb_Mo_formsWith_4
      simp only [Mo_formMany hM, bnO_s, nm_x, bnO_s, wr_s (z := i + 1) (by omega) (by omega), e1]
      rw [if_neg (by omega)]
      repeat' split
      all_goals first | contradiction | (exfalso; omega) | rfl | (rw [Int.add_zero, wr_id ha]) | (exfalso; simp_all; done)) (n := FU) (a := a) ha (FU_lt (by omega))
  simp only [Int.sub_zero] at q
  exact q
theorem Mo_foW0 (hM : MV S W)  {a : Int} (ha : inR a) : lo_Mo_formsWith_4 514 0 S FU (a, 0) = some (wr (a + sumR (fun f => at_ W 14 f) 0 (frm W).toNat)) := by
  have b := hM.b
  have ef : frm W = 2 * sg W := rfl
  have q := lp_sum (body := fun go p0 => lb_Mo_formsWith_4 514 0 S go p0.1 p0.2) (fun f => at_ W 14 f) 0 (frm W)
    (fun go a i h => by
      show lb_Mo_formsWith_4 514 0 S go a i = _
      unfold lb_Mo_formsWith_4
      simp only [Mo_formMany hM, bnO_s]
      rw [if_pos h])
    (fun go a i ha h1 h2 => by
      show lb_Mo_formsWith_4 514 0 S go a i = _
      have e0 : fn_Mo_ofForm 514 i 0 S = some (at_ W 14 i) := Mo_ofForm hM (k := 0) (by omega) ⟨h1, h2⟩
      unfold lb_Mo_formsWith_4
      simp only [Mo_formMany hM, bnO_s, nm_x, bnO_s, wr_s (z := i + 1) (by omega) (by omega), e0]
      rw [if_neg (by omega)]
      repeat' split
      all_goals first | contradiction | (exfalso; omega) | rfl | (rw [Int.add_zero, wr_id ha]) | (exfalso; simp_all; done)) (n := FU) (a := a) ha (FU_lt (by omega))
  simp only [Int.sub_zero] at q
  exact q
theorem Mo_leF0 (hM : MV S W) {f : Int} {a : Int} (ha : inR a) : lo_Mo_leftOnForm_4 514 f S FU (a, 1) = some (wr (a + sumP W (fun p => if fOf W p = f then lf W p else 0))) := by
  have b := hM.b
  have ef : frm W = 2 * sg W := rfl
  have q := lp_sum (body := fun go p0 => lb_Mo_leftOnForm_4 514 f S go p0.1 p0.2) (fun p => if fOf W p = f then lf W p else 0) 1 (pgs W + 1)
    (fun go a i h => by
      show lb_Mo_leftOnForm_4 514 f S go a i = _
      unfold lb_Mo_leftOnForm_4
      simp only [Mo_pageMany hM, bnO_s]
      rw [if_pos (by omega)])
    (fun go a i ha h1 h2 => by
      show lb_Mo_leftOnForm_4 514 f S go a i = _
      have eo : fn_Mo_formOf 514 i S = some (fOf W i) := Mo_formOf hM h1 (by omega)
      have el : fn_Mo_left 514 i S = some (lf W i) := Mo_left hM
      unfold lb_Mo_leftOnForm_4
      simp only [Mo_pageMany hM, bnO_s, nm_x, bnO_s, wr_s (z := i + 1) (by omega) (by omega), eo, el]
      rw [if_neg (by omega)]
      repeat' split
      all_goals first | contradiction | (exfalso; omega) | rfl | (rw [Int.add_zero, wr_id ha]) | (exfalso; simp_all; done)) (n := FU) (a := a) ha (FU_lt (by omega))
  simp only [Int.add_sub_cancel] at q
  exact q
theorem Mo_adF0 (hM : MV S W) {f : Int} {a : Int} (ha : inR a) : lo_Mo_adsOnForm_4 514 f S FU (a, 0) = some (wr (a + sumA W (fun a => if onF W a f = true then 1 else 0))) := by
  have b := hM.b
  have ef : frm W = 2 * sg W := rfl
  have q := lp_sum (body := fun go p0 => lb_Mo_adsOnForm_4 514 f S go p0.1 p0.2) (fun a => if onF W a f = true then 1 else 0) 0 (nA W)
    (fun go a i h => by
      show lb_Mo_adsOnForm_4 514 f S go a i = _
      unfold lb_Mo_adsOnForm_4
      simp only [tg_514_0, hM.mA]
      rw [if_pos h])
    (fun go a i ha h1 h2 => by
      show lb_Mo_adsOnForm_4 514 f S go a i = _
      have eo : fn_Mo_isAdOnForm 514 i f S = some (onF W i f) := Mo_isAdOnForm hM ⟨h1, h2⟩
      unfold lb_Mo_adsOnForm_4
      simp only [tg_514_0, hM.mA, nm_x, bnO_s, wr_s (z := i + 1) (by omega) (by omega), eo]
      rw [if_neg (by omega)]
      repeat' split
      all_goals first | contradiction | (exfalso; omega) | rfl | (rw [Int.add_zero, wr_id ha]) | (exfalso; simp_all; done)) (n := FU) (a := a) ha (FU_lt (by omega))
  simp only [Int.sub_zero] at q
  exact q
theorem Mo_laF0 (hM : MV S W) {f : Int} {a : Int} (ha : inR a) : lo_Mo_lateOnForm_4 514 f S FU (a, 0) = some (wr (a + sumA W (fun a => if onF W a f = true then (if laA W a = true then 1 else 0) else 0))) := by
  have b := hM.b
  have ef : frm W = 2 * sg W := rfl
  have q := lp_sum (body := fun go p0 => lb_Mo_lateOnForm_4 514 f S go p0.1 p0.2) (fun a => if onF W a f = true then (if laA W a = true then 1 else 0) else 0) 0 (nA W)
    (fun go a i h => by
      show lb_Mo_lateOnForm_4 514 f S go a i = _
      unfold lb_Mo_lateOnForm_4
      simp only [tg_514_0, hM.mA]
      rw [if_pos h])
    (fun go a i ha h1 h2 => by
      show lb_Mo_lateOnForm_4 514 f S go a i = _
      have eo : fn_Mo_isAdOnForm 514 i f S = some (onF W i f) := Mo_isAdOnForm hM ⟨h1, h2⟩
      have el : fn_Mo_isAdLate 514 i S = some (laA W i) := Mo_isAdLate hM ⟨h1, h2⟩
      unfold lb_Mo_lateOnForm_4
      simp only [tg_514_0, hM.mA, nm_x, bnO_s, wr_s (z := i + 1) (by omega) (by omega), eo, el]
      rw [if_neg (by omega)]
      repeat' split
      all_goals first | contradiction | (exfalso; omega) | rfl | (rw [Int.add_zero, wr_id ha]) | (exfalso; simp_all; done)) (n := FU) (a := a) ha (FU_lt (by omega))
  simp only [Int.sub_zero] at q
  exact q
theorem Mo_laF1 (hM : MV S W) {f : Int} {a : Int} (ha : inR a) : lo_Mo_lateOnForm_47 514 f S FU (a, 0) = some (wr (a + sumS W (fun s => if laS W s = true then (if hasPg W s f = true then 1 else 0) else 0))) := by
  have b := hM.b
  have ef : frm W = 2 * sg W := rfl
  have q := lp_sum (body := fun go p0 => lb_Mo_lateOnForm_47 514 f S go p0.1 p0.2) (fun s => if laS W s = true then (if hasPg W s f = true then 1 else 0) else 0) 0 (nS W)
    (fun go a i h => by
      show lb_Mo_lateOnForm_47 514 f S go a i = _
      unfold lb_Mo_lateOnForm_47
      simp only [tg_514_0, hM.mS]
      rw [if_pos h])
    (fun go a i ha h1 h2 => by
      show lb_Mo_lateOnForm_47 514 f S go a i = _
      have el : fn_Mo_isStoryLate 514 i S = some (laS W i) := Mo_isStoryLate hM ⟨h1, h2⟩
      have eh : fn_Mo_hasPageOn 514 i f S = some (hasPg W i f) := Mo_hasPageOn hM ⟨h1, h2⟩
      unfold lb_Mo_lateOnForm_47
      simp only [tg_514_0, hM.mS, nm_x, bnO_s, wr_s (z := i + 1) (by omega) (by omega), el, eh]
      rw [if_neg (by omega)]
      repeat' split
      all_goals first | contradiction | (exfalso; omega) | rfl | (rw [Int.add_zero, wr_id ha]) | (exfalso; simp_all; done)) (n := FU) (a := a) ha (FU_lt (by omega))
  simp only [Int.sub_zero] at q
  exact q
theorem Mo_hsC0 (hM : MV S W) {f : Int} {z : Bool} : lo_Mo_hasColored_4 514 f S FU (bi z, 0) = some (bi (z || anyA W (fun a => onF W a f && decide (at_ W 2 a = 1)))) := by
  have b := hM.b
  have q := lp_any (body := fun go p0 => lb_Mo_hasColored_4 514 f S go p0.1 p0.2) (fun a => onF W a f && decide (at_ W 2 a = 1)) 0 (nA W)
    (fun go z i h => by
      show lb_Mo_hasColored_4 514 f S go z i = _
      unfold lb_Mo_hasColored_4
      simp only [tg_514_0, hM.mA]
      rw [if_pos h])
    (fun go z i h1 h2 => by
      show lb_Mo_hasColored_4 514 f S go (bi z) i = _
      have e2 : fn_Mo_ofAd 514 i 2 S = some (at_ W 2 i) := Mo_ofAd hM (k := 2) (by omega) ⟨h1, h2⟩
      have eo : fn_Mo_isAdOnForm 514 i f S = some (onF W i f) := Mo_isAdOnForm hM ⟨h1, h2⟩
      unfold lb_Mo_hasColored_4
      simp only [tg_514_0, hM.mA, nm_x, bnO_s, wr_s (z := i + 1) (by omega) (by omega), i_or_t, i_or_f, e2, eo]
      rw [if_neg (by omega)]
      repeat' split
      all_goals simp_all) (n := FU) (b := z) (FU_lt (by omega))
  simp only [Int.sub_zero] at q
  exact q
theorem Mo_hsC1 (hM : MV S W) {f : Int} {z : Bool} : lo_Mo_hasColored_49 514 f S FU (bi z, 0) = some (bi (z || anyS W (fun s => decide (at_ W 8 s = 1) && hasPg W s f))) := by
  have b := hM.b
  have q := lp_any (body := fun go p0 => lb_Mo_hasColored_49 514 f S go p0.1 p0.2) (fun s => decide (at_ W 8 s = 1) && hasPg W s f) 0 (nS W)
    (fun go z i h => by
      show lb_Mo_hasColored_49 514 f S go z i = _
      unfold lb_Mo_hasColored_49
      simp only [tg_514_0, hM.mS]
      rw [if_pos h])
    (fun go z i h1 h2 => by
      show lb_Mo_hasColored_49 514 f S go (bi z) i = _
      have e1 : fn_Mo_ofStory 514 i 1 S = some (at_ W 8 i) := Mo_ofStory hM (k := 1) (by omega) ⟨h1, h2⟩
      have eh : fn_Mo_hasPageOn 514 i f S = some (hasPg W i f) := Mo_hasPageOn hM ⟨h1, h2⟩
      unfold lb_Mo_hasColored_49
      simp only [tg_514_0, hM.mS, nm_x, bnO_s, wr_s (z := i + 1) (by omega) (by omega), i_or_t, i_or_f, e1, eh]
      rw [if_neg (by omega)]
      repeat' split
      all_goals simp_all) (n := FU) (b := z) (FU_lt (by omega))
  simp only [Int.sub_zero] at q
  exact q
theorem Mo_grp0 (hM : MV S W) {y s : Int} {a : Int} (ha : inR a) : lo_Mo_ofGroupOn_5 514 y s S FU (a, 0) = some (wr (a + sumA W (fun a => if at_ W 1 a = y then (if at_ W 6 a ≤ 0 then 0 else if at_ W 6 a / 2 = s then 1 else 0) else 0))) := by
  have b := hM.b
  have ef : frm W = 2 * sg W := rfl
  have q := lp_sum (body := fun go p0 => lb_Mo_ofGroupOn_5 514 y s S go p0.1 p0.2) (fun a => if at_ W 1 a = y then (if at_ W 6 a ≤ 0 then 0 else if at_ W 6 a / 2 = s then 1 else 0) else 0) 0 (nA W)
    (fun go a i h => by
      show lb_Mo_ofGroupOn_5 514 y s S go a i = _
      unfold lb_Mo_ofGroupOn_5
      simp only [tg_514_0, hM.mA]
      rw [if_pos h])
    (fun go a i ha h1 h2 => by
      show lb_Mo_ofGroupOn_5 514 y s S go a i = _
      have e1 : fn_Mo_ofAd 514 i 1 S = some (at_ W 1 i) := Mo_ofAd hM (k := 1) (by omega) ⟨h1, h2⟩
      have e6 : fn_Mo_ofAd 514 i 6 S = some (at_ W 6 i) := Mo_ofAd hM (k := 6) (by omega) ⟨h1, h2⟩
      have v := hM.2.2.1 i h1 h2
      unfold lb_Mo_ofGroupOn_5
      simp only [tg_514_0, hM.mA, nm_x, bnO_s, wr_s (z := i + 1) (by omega) (by omega), e1, e6, td_n (a := at_ W 6 i) (b := 2) (by omega), wr_s (z := at_ W 6 i / 2) (by omega) (by omega)]
      rw [if_neg (by omega)]
      repeat' split
      all_goals first | contradiction | (exfalso; omega) | rfl | (rw [Int.add_zero, wr_id ha]) | (exfalso; simp_all; done)) (n := FU) (a := a) ha (FU_lt (by omega))
  simp only [Int.sub_zero] at q
  exact q
theorem Mo_rev0 (hM : MV S W) {y : Int} {a : Int} (ha : inR a) : lo_Mo_revenueBy_4 514 y S FU (a, 0) = some (wr (a + sumA W (fun a => if at_ W 6 a ≤ 0 then 0 else if y = -1 then at_ W 4 a else if at_ W 1 a = y then at_ W 4 a else 0))) := by
  have b := hM.b
  have ef : frm W = 2 * sg W := rfl
  have q := lp_sum (body := fun go p0 => lb_Mo_revenueBy_4 514 y S go p0.1 p0.2) (fun a => if at_ W 6 a ≤ 0 then 0 else if y = -1 then at_ W 4 a else if at_ W 1 a = y then at_ W 4 a else 0) 0 (nA W)
    (fun go a i h => by
      show lb_Mo_revenueBy_4 514 y S go a i = _
      unfold lb_Mo_revenueBy_4
      simp only [tg_514_0, hM.mA]
      rw [if_pos h])
    (fun go a i ha h1 h2 => by
      show lb_Mo_revenueBy_4 514 y S go a i = _
      have e6 : fn_Mo_ofAd 514 i 6 S = some (at_ W 6 i) := Mo_ofAd hM (k := 6) (by omega) ⟨h1, h2⟩
      have e4 : fn_Mo_ofAd 514 i 4 S = some (at_ W 4 i) := Mo_ofAd hM (k := 4) (by omega) ⟨h1, h2⟩
      have e1 : fn_Mo_ofAd 514 i 1 S = some (at_ W 1 i) := Mo_ofAd hM (k := 1) (by omega) ⟨h1, h2⟩
      unfold lb_Mo_revenueBy_4
      simp only [tg_514_0, hM.mA, nm_x, bnO_s, wr_s (z := i + 1) (by omega) (by omega), e6, e4, e1]
      rw [if_neg (by omega)]
      repeat' split
      all_goals first | contradiction | (exfalso; omega) | rfl | (rw [Int.add_zero, wr_id ha]) | (exfalso; simp_all; done)) (n := FU) (a := a) ha (FU_lt (by omega))
  simp only [Int.sub_zero] at q
  exact q
theorem Mo_rvF0 (hM : MV S W) {f : Int} {a : Int} (ha : inR a) : lo_Mo_revenueOf_32 514 f S FU (a, 0) = some (wr (a + sumA W (fun a => if onF W a f = true then at_ W 4 a else 0))) := by
  have b := hM.b
  have ef : frm W = 2 * sg W := rfl
  have q := lp_sum (body := fun go p0 => lb_Mo_revenueOf_32 514 f S go p0.1 p0.2) (fun a => if onF W a f = true then at_ W 4 a else 0) 0 (nA W)
    (fun go a i h => by
      show lb_Mo_revenueOf_32 514 f S go a i = _
      unfold lb_Mo_revenueOf_32
      simp only [tg_514_0, hM.mA]
      rw [if_pos h])
    (fun go a i ha h1 h2 => by
      show lb_Mo_revenueOf_32 514 f S go a i = _
      have e4 : fn_Mo_ofAd 514 i 4 S = some (at_ W 4 i) := Mo_ofAd hM (k := 4) (by omega) ⟨h1, h2⟩
      have eo : fn_Mo_isAdOnForm 514 i f S = some (onF W i f) := Mo_isAdOnForm hM ⟨h1, h2⟩
      unfold lb_Mo_revenueOf_32
      simp only [tg_514_0, hM.mA, nm_x, bnO_s, wr_s (z := i + 1) (by omega) (by omega), e4, eo]
      rw [if_neg (by omega)]
      repeat' split
      all_goals first | contradiction | (exfalso; omega) | rfl | (rw [Int.add_zero, wr_id ha]) | (exfalso; simp_all; done)) (n := FU) (a := a) ha (FU_lt (by omega))
  simp only [Int.sub_zero] at q
  exact q
theorem Mo_chc0 (hM : MV S W) {x : Int} (hx : 0 ≤ x ∧ x < nA W) {a : Int} (ha : inR a) : lo_Mo_choicesOf_4 514 x S FU (a, 1) = some (wr (a + sumP W (fun p => if reas W x p = 0 then 1 else 0))) := by
  have b := hM.b
  have ef : frm W = 2 * sg W := rfl
  have q := lp_sum (body := fun go p0 => lb_Mo_choicesOf_4 514 x S go p0.1 p0.2) (fun p => if reas W x p = 0 then 1 else 0) 1 (pgs W + 1)
    (fun go a i h => by
      show lb_Mo_choicesOf_4 514 x S go a i = _
      unfold lb_Mo_choicesOf_4
      simp only [Mo_pageMany hM, bnO_s]
      rw [if_pos (by omega)])
    (fun go a i ha h1 h2 => by
      show lb_Mo_choicesOf_4 514 x S go a i = _
      have er : fn_Mo_reasonOf 514 x i S = some (reas W x i) := Mo_reasonOf hM hx
      unfold lb_Mo_choicesOf_4
      simp only [Mo_pageMany hM, bnO_s, nm_x, bnO_s, wr_s (z := i + 1) (by omega) (by omega), er]
      rw [if_neg (by omega)]
      repeat' split
      all_goals first | contradiction | (exfalso; omega) | rfl | (rw [Int.add_zero, wr_id ha]) | (exfalso; simp_all; done)) (n := FU) (a := a) ha (FU_lt (by omega))
  simp only [Int.add_sub_cancel] at q
  exact q
theorem Mo_fil0 (hM : MV S W)  {a : Int} (ha : inR a) : lo_Mo_fill_9 514 S FU (a, 1) = some (wr (a + sumP W (fun p => 4 - lf W p))) := by
  have b := hM.b
  have ef : frm W = 2 * sg W := rfl
  have q := lp_sum (body := fun go p0 => lb_Mo_fill_9 514 S go p0.1 p0.2) (fun p => 4 - lf W p) 1 (pgs W + 1)
    (fun go a i h => by
      show lb_Mo_fill_9 514 S go a i = _
      unfold lb_Mo_fill_9
      simp only [Mo_pageMany hM, bnO_s]
      rw [if_pos (by omega)])
    (fun go a i ha h1 h2 => by
      show lb_Mo_fill_9 514 S go a i = _
      have el : fn_Mo_left 514 i S = some (lf W i) := Mo_left hM
      unfold lb_Mo_fill_9
      simp only [Mo_pageMany hM, bnO_s, nm_x, bnO_s, wr_s (z := i + 1) (by omega) (by omega), el]
      rw [if_neg (by omega)]
      repeat' split
      all_goals first | contradiction | (exfalso; omega) | rfl | (rw [Int.add_zero, wr_id ha]) | (exfalso; simp_all; done)) (n := FU) (a := a) ha (FU_lt (by omega))
  simp only [Int.add_sub_cancel] at q
  exact q
theorem Mo_qPr0 (hM : MV S W)  {a : Int} (ha : inR a) : lo_Mo_quarterPrice_9 514 S FU (a, 0) = some (wr (a + sumA W (fun a => if at_ W 6 a ≤ 0 then 0 else at_ W 0 a))) := by
  have b := hM.b
  have ef : frm W = 2 * sg W := rfl
  have q := lp_sum (body := fun go p0 => lb_Mo_quarterPrice_9 514 S go p0.1 p0.2) (fun a => if at_ W 6 a ≤ 0 then 0 else at_ W 0 a) 0 (nA W)
    (fun go a i h => by
      show lb_Mo_quarterPrice_9 514 S go a i = _
      unfold lb_Mo_quarterPrice_9
      simp only [tg_514_0, hM.mA]
      rw [if_pos h])
    (fun go a i ha h1 h2 => by
      show lb_Mo_quarterPrice_9 514 S go a i = _
      have e6 : fn_Mo_ofAd 514 i 6 S = some (at_ W 6 i) := Mo_ofAd hM (k := 6) (by omega) ⟨h1, h2⟩
      have e0 : fn_Mo_ofAd 514 i 0 S = some (at_ W 0 i) := Mo_ofAd hM (k := 0) (by omega) ⟨h1, h2⟩
      unfold lb_Mo_quarterPrice_9
      simp only [tg_514_0, hM.mA, nm_x, bnO_s, wr_s (z := i + 1) (by omega) (by omega), e6, e0]
      rw [if_neg (by omega)]
      repeat' split
      all_goals first | contradiction | (exfalso; omega) | rfl | (rw [Int.add_zero, wr_id ha]) | (exfalso; simp_all; done)) (n := FU) (a := a) ha (FU_lt (by omega))
  simp only [Int.sub_zero] at q
  exact q
theorem Mo_adsOn (hM : MV S W) {p : Int} : fn_Mo_adsOn 514 p S = some (adsO W p) := by
  unfold fn_Mo_adsOn adsO
  rw [Mo_adsO0 hM (inRk rfl), bnO_s, Int.zero_add]
theorem Mo_standbysOn (hM : MV S W) {p : Int} : fn_Mo_standbysOn 514 p S = some (stbO W p) := by
  unfold fn_Mo_standbysOn stbO
  rw [Mo_stbO0 hM (inRk rfl), bnO_s, Int.zero_add]
theorem Mo_leftOnForm (hM : MV S W) {f : Int} : fn_Mo_leftOnForm 514 f S = some (lefF W f) := by
  unfold fn_Mo_leftOnForm lefF
  rw [Mo_leF0 hM (inRk rfl), bnO_s, Int.zero_add]
theorem Mo_adsOnForm (hM : MV S W) {f : Int} : fn_Mo_adsOnForm 514 f S = some (adsF W f) := by
  unfold fn_Mo_adsOnForm adsF
  rw [Mo_adF0 hM (inRk rfl), bnO_s, Int.zero_add]
theorem Mo_lateOnForm (hM : MV S W) {f : Int} : fn_Mo_lateOnForm 514 f S = some (latF W f) := by
  unfold fn_Mo_lateOnForm latF
  rw [Mo_laF0 hM (inRk rfl), bnO_s, Mo_laF1 hM (wr_in _), bnO_s, Int.zero_add, wr_add]
theorem Mo_hasColored (hM : MV S W) {f : Int} : fn_Mo_hasColored 514 f S = some (hasC W f) := by
  unfold fn_Mo_hasColored hasC
  have q := Mo_hsC0 hM (f := f) (z := false)
  rw [bi_f, Bool.false_or] at q
  rw [q, bnO_s, Mo_hsC1 hM, bnO_s, if_pos bi_01, bi_d]
theorem Mo_ofGroupOn (hM : MV S W) {y s : Int} : fn_Mo_ofGroupOn 514 y s S = some (grp W y s) := by
  unfold fn_Mo_ofGroupOn grp
  rw [Mo_grp0 hM (inRk rfl), bnO_s, Int.zero_add]
theorem Mo_revenueBy (hM : MV S W) {y : Int} : fn_Mo_revenueBy 514 y S = some (revB W y) := by
  unfold fn_Mo_revenueBy revB
  rw [Mo_rev0 hM (inRk rfl), bnO_s, Int.zero_add]
end RefLoops
