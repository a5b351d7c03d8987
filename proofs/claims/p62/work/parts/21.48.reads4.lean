section Reads4
variable {S T : St} {W : Vw} {n : Int} {hs : Int → Vw}
def nxS (W : Vw) (i s : Int) : Int := if at_ W 15 i = 0 then (if at_ W 16 i = -1 then s else if s = -1 then i else if at_ W 16 s ≤ at_ W 16 i then s else i) else s
def nxt (W : Vw) : Int := itR (nxS W) 0 (frm W).toNat (-1)
theorem P_soonest {p : Nat} (h : PL S p W) : fn_Plan_soonestForm p S = some (nxt W) := by
  have hq := h.q
  have fb := frm_b h.v
  have q := lp_it (body := fun go p0 => lb_Plan_soonestForm_4 p S go p0.1 p0.2) (fun i s => (s, i)) (nxS W) id (fun i (s : Int) => 0 ≤ i ∧ i ≤ frm W ∧ (s = -1 ∨ (0 ≤ s ∧ s < frm W ∧ 1 ≤ at_ W 16 s))) (frm W)
    (fun go i s _ hi => by
      show lb_Plan_soonestForm_4 p S go s i = _
      unfold lb_Plan_soonestForm_4
      rw [h.gf, if_pos hi]; rfl)
    (fun go i s hI hi => by
      have c16 := h.cl0 (a := i) ⟨hI.1, hi⟩
      have v := h.v.2.2.2.2 i hI.1 hi
      refine ⟨?_, ?_⟩
      · show lb_Plan_soonestForm_4 p S go s i = go (nxS W i s, i + 1)
        have e1 := h.f1 (a := i) ⟨hI.1, hi⟩
        unfold lb_Plan_soonestForm_4 nxS
        rw [h.gf, if_neg (by omega), if_pos (by omega : 0 ≤ i ∧ i < 8), tq_0 hq, tq_F hq, tq_F1 hq, tq_F2 hq, e1]
        simp only [nm_x, wr_s (z := i + 1) (by omega) (by omega)]
        by_cases d : at_ W 15 i = 0
        · rw [if_pos d, if_pos d]
          rcases c16 with c16 | c16
          · rw [if_pos c16.1, if_pos c16.2]
          · rw [if_neg (by omega : ¬ g S (p + 22) i.toNat = 0), if_neg (by omega : ¬ at_ W 16 i = -1), c16.1]
            by_cases d2 : s = -1
            · rw [if_pos d2, if_pos d2]
            · have cs := h.cl0 (a := s) (by omega)
              have es : g S (p + 22) s.toNat = at_ W 16 s := by omega
              rw [if_neg d2, if_neg d2, if_pos (by omega : 0 ≤ s ∧ s < 8), es]
              by_cases d3 : at_ W 16 s ≤ at_ W 16 i
              · rw [if_pos d3, if_pos d3]
              · rw [if_neg d3, if_neg d3]
        · rw [if_neg d, if_neg d]
      · unfold nxS
        obtain ⟨i0, i1, hs⟩ := hI
        repeat' split
        all_goals omega) (frm W).toNat FU 0 (-1) ⟨Int.le_refl _, by omega, .inl rfl⟩ (by omega) (FU_lt (by omega))
  unfold fn_Plan_soonestForm nxt
  have q2 : lo_Plan_soonestForm_4 p S FU (-1, 0) = _ := q
  rw [q2, bnO_s]; rfl
theorem Mo_nextForm (hM : MV S W) : fn_Mo_nextForm 514 S = some (nxt W) := by
  have fb := frm_b hM.2
  have q := lp_it (body := fun go p0 => lb_Mo_nextForm_4 514 S go p0.1 p0.2) (fun i s => (s, i)) (nxS W) id (fun i (s : Int) => 0 ≤ i ∧ i ≤ frm W ∧ (s = -1 ∨ (0 ≤ s ∧ s < frm W ∧ 1 ≤ at_ W 16 s))) (frm W)
    (fun go i s _ hi => by
      show lb_Mo_nextForm_4 514 S go s i = _
      unfold lb_Mo_nextForm_4
      rw [Mo_formMany hM, bnO_s, if_pos hi]; rfl)
    (fun go i s hI hi => by
      have v := hM.2.2.2.2.2 i hI.1 hi
      refine ⟨?_, ?_⟩
      · show lb_Mo_nextForm_4 514 S go s i = go (nxS W i s, i + 1)
        have e1 : fn_Mo_ofForm 514 i 1 S = some (at_ W 15 i) := Mo_ofForm hM (k := 1) (by omega) ⟨hI.1, hi⟩
        have e2 : fn_Mo_ofForm 514 i 2 S = some (at_ W 16 i) := Mo_ofForm hM (k := 2) (by omega) ⟨hI.1, hi⟩
        unfold lb_Mo_nextForm_4 nxS
        rw [Mo_formMany hM, bnO_s, if_neg (by omega), e1, bnO_s, e2, bnO_s]
        simp only [nm_x, wr_s (z := i + 1) (by omega) (by omega)]
        by_cases d : at_ W 15 i = 0
        · rw [if_pos d, if_pos d]
          by_cases d1 : at_ W 16 i = -1
          · rw [if_pos d1, if_pos d1]
          · rw [if_neg d1, if_neg d1, bnO_s]
            by_cases d2 : s = -1
            · rw [if_pos d2, if_pos d2]
            · have e3 : fn_Mo_ofForm 514 s 2 S = some (at_ W 16 s) := Mo_ofForm hM (k := 2) (by omega) (show 0 ≤ s ∧ s < frm W by omega)
              rw [if_neg d2, if_neg d2, e3, bnO_s]
              by_cases d3 : at_ W 16 s ≤ at_ W 16 i
              · rw [if_pos d3, if_pos d3]
              · rw [if_neg d3, if_neg d3]
        · rw [if_neg d, if_neg d]
      · unfold nxS
        obtain ⟨i0, i1, hs⟩ := hI
        repeat' split
        all_goals omega) (frm W).toNat FU 0 (-1) ⟨Int.le_refl _, by omega, .inl rfl⟩ (by omega) (FU_lt (by omega))
  unfold fn_Mo_nextForm nxt
  have q2 : lo_Mo_nextForm_4 514 S FU (-1, 0) = _ := q
  rw [q2, bnO_s]; rfl
theorem ok_nextClosing (hI : Inv S)   : ∃ r S2, fn_FP_nextClosing 0 S = some r ∧ fn_Mo_nextClosing 514 S = some (r, S2) ∧ Inv S2 := by
  obtain ⟨W, n, hs, hG, hH, hP⟩ := hI
  have h := hP.1.1
  have hM := hP.1.2
  have hM1 : MV (u S 514 4 0) W := hM.thr
  have b := hM.b
  refine ⟨nxt W, u S 514 4 0, ?_, ?_, W, n, hs, hG, hH, hP.thr⟩
  · unfold fn_FP_nextClosing
    rw [tg_0_3, P_soonest h.pl, bnO_s]
  · unfold fn_Mo_nextClosing
    rw [nm_x]
    rw [Mo_nextForm hM1, bnO_s]
def tiS (W : Vw) (i : Int) (s : Int × Int) : Int × Int := if at_ W 6 i = 0 then (if s.1 = -1 ∨ chcs W i < s.2 then (i, chcs W i) else s) else s
def tgh (W : Vw) : Int := (itR (tiS W) 0 (nA W).toNat (-1, 0)).1
theorem chcs_b (hV : Val W) {a : Int} : 0 ≤ chcs W a ∧ chcs W a ≤ 64 := by
  have z := hV.z
  have q := sumR_bd (w := fun q => if reas W a q = 0 then 1 else 0) (l := 0) (h := 1) (n := (pgs W).toNat) (i := 1) (fun j _ _ => by split <;> omega)
  rw [Int.mul_zero, Int.mul_one] at q
  unfold chcs sumP
  rw [wr_s (by omega) (by omega)]
  omega
theorem P_tightest (h : PT S 5 W) : fn_Searches_tightestAd 505 S = some (tgh W) := by
  have b := h.pl.b
  have q := lp_it (body := fun go p0 => lb_Searches_tightestAd_6 505 S go p0.1 p0.2.1 p0.2.2) (fun i (s : Int × Int) => (s.1, s.2, i)) (tiS W) (fun s => s.1) (fun i _ => 0 ≤ i) (nA W)
    (fun go i s _ hi => by
      show lb_Searches_tightestAd_6 505 S go s.1 s.2 i = _
      have e7 : g S 7 7 = nA W := h.pl.mA
      unfold lb_Searches_tightestAd_6
      rw [tg_505_1, tg_6_0, e7, if_pos hi])
    (fun go i s hI hi => by
      refine ⟨?_, by omega⟩
      show lb_Searches_tightestAd_6 505 S go s.1 s.2 i = go ((tiS W i s).1, (tiS W i s).2, i + 1)
      have e7 : g S 7 7 = nA W := h.pl.mA
      have e6 : g S 14 i.toNat = at_ W 6 i := h.pl.a6 ⟨hI, hi⟩
      unfold lb_Searches_tightestAd_6 tiS
      rw [tg_505_1, tg_6_0, e7, if_neg (by omega), if_pos (by omega : 0 ≤ i ∧ i < 40), tg_7_6, e6]
      simp only [nm_x, wr_s (z := i + 1) (by omega) (by omega)]
      by_cases d : at_ W 6 i = 0
      · rw [if_pos d, if_pos d, P_pagesFor h ⟨hI, hi⟩, bnO_s]
        by_cases d2 : s.1 = -1
        · rw [if_pos d2, if_pos (.inl d2 : s.1 = -1 ∨ chcs W i < s.2)]
        · rw [if_neg d2]
          by_cases d3 : s.2 ≤ chcs W i
          · rw [if_pos d3, if_neg (by omega : ¬ (s.1 = -1 ∨ chcs W i < s.2))]
          · rw [if_neg d3, if_pos (by omega : s.1 = -1 ∨ chcs W i < s.2)]
      · rw [if_neg d, if_neg d]) (nA W).toNat FU 0 (-1, 0) (Int.le_refl _) (by omega) (FU_lt (by omega))
  unfold fn_Searches_tightestAd tgh
  have q2 : lo_Searches_tightestAd_6 505 S FU (-1, 0, 0) = _ := q
  rw [q2, bnO_s]
theorem Mo_tgLoop (hM : MV S W) : lo_Mo_tightest_12 514 S FU (-1, 1000000, 0) = some (tgh W) := by
  have b := hM.b
  exact lp_it (body := fun go p0 => lb_Mo_tightest_12 514 S go p0.1 p0.2.1 p0.2.2) (fun i (s : Int × Int) => (s.1, if s.1 = -1 then 1000000 else s.2, i)) (tiS W) (fun s => s.1) (fun i _ => 0 ≤ i) (nA W)
    (fun go i s _ hi => by
      show lb_Mo_tightest_12 514 S go s.1 (if s.1 = -1 then 1000000 else s.2) i = _
      unfold lb_Mo_tightest_12
      rw [tg_514_0, hM.mA, if_pos hi])
    (fun go i s hI hi => by
      refine ⟨?_, by omega⟩
      show lb_Mo_tightest_12 514 S go s.1 (if s.1 = -1 then 1000000 else s.2) i = go ((tiS W i s).1, (if (tiS W i s).1 = -1 then 1000000 else (tiS W i s).2), i + 1)
      have e6 : fn_Mo_ofAd 514 i 6 S = some (at_ W 6 i) := Mo_ofAd hM (k := 6) (by omega) ⟨hI, hi⟩
      have v := hM.2.2.1 i hI hi
      have cb := chcs_b hM.2 (a := i)
      unfold lb_Mo_tightest_12 tiS
      rw [tg_514_0, hM.mA, if_neg (by omega), e6, bnO_s]
      simp only [nm_x, wr_s (z := i + 1) (by omega) (by omega)]
      by_cases d : at_ W 6 i = 0
      · rw [if_pos (by omega : at_ W 6 i ≤ 0), if_pos d, Mo_choicesOf hM ⟨hI, hi⟩, bnO_s]
        by_cases d2 : s.1 = -1
        · rw [if_pos d2, if_pos (by omega : chcs W i < 1000000), if_pos (.inl d2 : s.1 = -1 ∨ chcs W i < s.2)]
          show go (i, chcs W i, i + 1) = go (i, (if i = -1 then 1000000 else chcs W i), i + 1)
          rw [if_neg (by omega : ¬ i = -1)]
        · rw [if_neg d2]
          by_cases d3 : chcs W i < s.2
          · rw [if_pos d3, if_pos (.inr d3 : s.1 = -1 ∨ chcs W i < s.2)]
            show go (i, chcs W i, i + 1) = go (i, (if i = -1 then 1000000 else chcs W i), i + 1)
            rw [if_neg (by omega : ¬ i = -1)]
          · rw [if_neg d3, if_neg (fun z => z.elim d2 d3 : ¬ (s.1 = -1 ∨ chcs W i < s.2)), if_neg d2]
      · rw [if_neg (by omega : ¬ at_ W 6 i ≤ 0), if_neg d]) (nA W).toNat FU 0 (-1, 0) (Int.le_refl _) (by omega) (FU_lt (by omega))
theorem ok_tightest (hI : Inv S)   : ∃ r S2, fn_FP_tightest 0 S = some r ∧ fn_Mo_tightest 514 S = some (r, S2) ∧ Inv S2 := by
  obtain ⟨W, n, hs, hG, hH, hP⟩ := hI
  have h := hP.1.1
  have hM := hP.1.2
  have hM1 : MV (u S 514 4 0) W := hM.thr
  have b := hM.b
  refine ⟨tgh W, u S 514 4 0, ?_, ?_, W, n, hs, hG, hH, hP.thr⟩
  · unfold fn_FP_tightest
    rw [tg_0_2, P_tightest h, bnO_s]
  · unfold fn_Mo_tightest
    rw [nm_x]
    rw [Mo_tgLoop hM1, bnO_s]
theorem F_digA (h : PT S 5 W) {a : Int} : lo_FP_digest_12 0 6 S FU (a, 0) = some (itR (fun i z => wr (31 * z + at_ W 6 i)) 0 (nA W).toNat a) := by
  have b := h.pl.b
  have fb := frm_b h.v
  have q : lo_FP_digest_12 0 6 S FU (a, 0) = _ := lp_acc (body := fun go p0 => lb_FP_digest_12 0 6 S go p0.1 p0.2) (fun i z => wr (31 * z + at_ W 6 i)) 0 (nA W)
    (fun go z i hi => by
      show lb_FP_digest_12 0 6 S go z i = _
      have e7 : g S 7 7 = nA W := h.pl.mA
      unfold lb_FP_digest_12
      rw [tg_6_0, e7, if_pos hi])
    (fun go z i h1 h2 => by
      show lb_FP_digest_12 0 6 S go z i = _
      have e7 : g S 7 7 = nA W := h.pl.mA
      have e6 : g S 14 i.toNat = at_ W 6 i := h.pl.a6 ⟨h1, h2⟩
      unfold lb_FP_digest_12
      rw [tg_6_0, e7, if_neg (by omega), if_pos (by omega : 0 ≤ i ∧ i < 40), tg_7_6, e6, nm_x, nm_x, wr_s (z := i + 1) (by omega) (by omega)]) (FU_lt (by omega))
  rw [q, Int.sub_zero]
theorem M_digA (hM : MV S W) {a : Int} : lo_Mo_digest_9 514 S FU (a, 0) = some (itR (fun i z => wr (31 * z + at_ W 6 i)) 0 (nA W).toNat a) := by
  have b := hM.b
  have fb := frm_b hM.2
  have q : lo_Mo_digest_9 514 S FU (a, 0) = _ := lp_acc (body := fun go p0 => lb_Mo_digest_9 514 S go p0.1 p0.2) (fun i z => wr (31 * z + at_ W 6 i)) 0 (nA W)
    (fun go z i hi => by
      show lb_Mo_digest_9 514 S go z i = _
      unfold lb_Mo_digest_9
      rw [tg_514_0, hM.mA, if_pos hi])
    (fun go z i h1 h2 => by
      show lb_Mo_digest_9 514 S go z i = _
      have e6 : fn_Mo_ofAd 514 i 6 S = some (at_ W 6 i) := Mo_ofAd hM (k := 6) (by omega) ⟨h1, h2⟩
      unfold lb_Mo_digest_9
      rw [tg_514_0, hM.mA, if_neg (by omega), e6, bnO_s, nm_x, nm_x, wr_s (z := i + 1) (by omega) (by omega)]) (FU_lt (by omega))
  rw [q, Int.sub_zero]
theorem F_digS (h : PT S 5 W) {a : Int} : lo_FP_digest_46 0 6 S FU (a, 0) = some (itR (fun i z => wr (31 * z + at_ W 11 i)) 0 (nS W).toNat a) := by
  have b := h.pl.b
  have fb := frm_b h.v
  have q : lo_FP_digest_46 0 6 S FU (a, 0) = _ := lp_acc (body := fun go p0 => lb_FP_digest_46 0 6 S go p0.1 p0.2) (fun i z => wr (31 * z + at_ W 11 i)) 0 (nS W)
    (fun go z i hi => by
      show lb_FP_digest_46 0 6 S go z i = _
      have e7 : g S 15 5 = nS W := h.pl.mS
      unfold lb_FP_digest_46
      rw [tg_6_1, e7, if_pos hi])
    (fun go z i h1 h2 => by
      show lb_FP_digest_46 0 6 S go z i = _
      have e7 : g S 15 5 = nS W := h.pl.mS
      have e6 : g S 20 i.toNat = at_ W 11 i := h.pl.s4 ⟨h1, h2⟩
      unfold lb_FP_digest_46
      rw [tg_6_1, e7, if_neg (by omega), if_pos (by omega : 0 ≤ i ∧ i < 10), tg_15_4, e6, nm_x, nm_x, wr_s (z := i + 1) (by omega) (by omega)]) (FU_lt (by omega))
  rw [q, Int.sub_zero]
theorem M_digS (hM : MV S W) {a : Int} : lo_Mo_digest_40 514 S FU (a, 0) = some (itR (fun i z => wr (31 * z + at_ W 11 i)) 0 (nS W).toNat a) := by
  have b := hM.b
  have fb := frm_b hM.2
  have q : lo_Mo_digest_40 514 S FU (a, 0) = _ := lp_acc (body := fun go p0 => lb_Mo_digest_40 514 S go p0.1 p0.2) (fun i z => wr (31 * z + at_ W 11 i)) 0 (nS W)
    (fun go z i hi => by
      show lb_Mo_digest_40 514 S go z i = _
      unfold lb_Mo_digest_40
      rw [tg_514_0, hM.mS, if_pos hi])
    (fun go z i h1 h2 => by
      show lb_Mo_digest_40 514 S go z i = _
      have e6 : fn_Mo_ofStory 514 i 4 S = some (at_ W 11 i) := Mo_ofStory hM (k := 4) (by omega) ⟨h1, h2⟩
      unfold lb_Mo_digest_40
      rw [tg_514_0, hM.mS, if_neg (by omega), e6, bnO_s, nm_x, nm_x, wr_s (z := i + 1) (by omega) (by omega)]) (FU_lt (by omega))
  rw [q, Int.sub_zero]
theorem F_digB (h : PT S 5 W) {a : Int} : lo_FP_digest_80 0 6 S FU (a, 0) = some (itR (fun i z => wr (31 * z + at_ W 13 i)) 0 (nB W).toNat a) := by
  have b := h.pl.b
  have fb := frm_b h.v
  have q : lo_FP_digest_80 0 6 S FU (a, 0) = _ := lp_acc (body := fun go p0 => lb_FP_digest_80 0 6 S go p0.1 p0.2) (fun i z => wr (31 * z + at_ W 13 i)) 0 (nB W)
    (fun go z i hi => by
      show lb_FP_digest_80 0 6 S go z i = _
      have e7 : g S 21 2 = nB W := h.pl.mB
      unfold lb_FP_digest_80
      rw [tg_6_2, e7, if_pos hi])
    (fun go z i h1 h2 => by
      show lb_FP_digest_80 0 6 S go z i = _
      have e7 : g S 21 2 = nB W := h.pl.mB
      have e6 : g S 23 i.toNat = at_ W 13 i := h.pl.b1 ⟨h1, h2⟩
      unfold lb_FP_digest_80
      rw [tg_6_2, e7, if_neg (by omega), if_pos (by omega : 0 ≤ i ∧ i < 8), tg_21_1, e6, nm_x, nm_x, wr_s (z := i + 1) (by omega) (by omega)]) (FU_lt (by omega))
  rw [q, Int.sub_zero]
theorem M_digB (hM : MV S W) {a : Int} : lo_Mo_digest_70 514 S FU (a, 0) = some (itR (fun i z => wr (31 * z + at_ W 13 i)) 0 (nB W).toNat a) := by
  have b := hM.b
  have fb := frm_b hM.2
  have q : lo_Mo_digest_70 514 S FU (a, 0) = _ := lp_acc (body := fun go p0 => lb_Mo_digest_70 514 S go p0.1 p0.2) (fun i z => wr (31 * z + at_ W 13 i)) 0 (nB W)
    (fun go z i hi => by
      show lb_Mo_digest_70 514 S go z i = _
      unfold lb_Mo_digest_70
      rw [tg_514_0, hM.mB, if_pos hi])
    (fun go z i h1 h2 => by
      show lb_Mo_digest_70 514 S go z i = _
      have e6 : fn_Mo_ofStandby 514 i 1 S = some (at_ W 13 i) := Mo_ofStandby hM (k := 1) (by omega) ⟨h1, h2⟩
      unfold lb_Mo_digest_70
      rw [tg_514_0, hM.mB, if_neg (by omega), e6, bnO_s, nm_x, nm_x, wr_s (z := i + 1) (by omega) (by omega)]) (FU_lt (by omega))
  rw [q, Int.sub_zero]
theorem F_digF (h : PT S 5 W) {a : Int} : lo_FP_digest_114 0 6 S FU (a, 0) = some (itR (fun i z => wr (31 * z + at_ W 15 i)) 0 (frm W).toNat a) := by
  have b := h.pl.b
  have fb := frm_b h.v
  have q : lo_FP_digest_114 0 6 S FU (a, 0) = _ := lp_acc (body := fun go p0 => lb_FP_digest_114 0 6 S go p0.1 p0.2) (fun i z => wr (31 * z + at_ W 15 i)) 0 (frm W)
    (fun go z i hi => by
      show lb_FP_digest_114 0 6 S go z i = _
      have e7 : g S 5 2 = frm W := h.pl.gf
      unfold lb_FP_digest_114
      rw [tg_0_3, e7, if_pos hi])
    (fun go z i h1 h2 => by
      show lb_FP_digest_114 0 6 S go z i = _
      have e7 : g S 5 2 = frm W := h.pl.gf
      have e6 : g S 26 i.toNat = at_ W 15 i := h.pl.f1 ⟨h1, h2⟩
      unfold lb_FP_digest_114
      rw [tg_0_3, e7, if_neg (by omega), if_pos (by omega : 0 ≤ i ∧ i < 8), tg_6_3, tg_24_1, e6, nm_x, nm_x, wr_s (z := i + 1) (by omega) (by omega)]) (FU_lt (by omega))
  rw [q, Int.sub_zero]
theorem M_digF (hM : MV S W) {a : Int} : lo_Mo_digest_100 514 S FU (a, 0) = some (itR (fun i z => wr (31 * z + at_ W 15 i)) 0 (frm W).toNat a) := by
  have b := hM.b
  have fb := frm_b hM.2
  have q : lo_Mo_digest_100 514 S FU (a, 0) = _ := lp_acc (body := fun go p0 => lb_Mo_digest_100 514 S go p0.1 p0.2) (fun i z => wr (31 * z + at_ W 15 i)) 0 (frm W)
    (fun go z i hi => by
      show lb_Mo_digest_100 514 S go z i = _
      unfold lb_Mo_digest_100
      rw [Mo_formMany hM, bnO_s, if_pos hi])
    (fun go z i h1 h2 => by
      show lb_Mo_digest_100 514 S go z i = _
      have e6 : fn_Mo_ofForm 514 i 1 S = some (at_ W 15 i) := Mo_ofForm hM (k := 1) (by omega) ⟨h1, h2⟩
      unfold lb_Mo_digest_100
      rw [Mo_formMany hM, bnO_s, if_neg (by omega), e6, bnO_s, nm_x, nm_x, wr_s (z := i + 1) (by omega) (by omega)]) (FU_lt (by omega))
  rw [q, Int.sub_zero]
def digW (W : Vw) : Int := itR (fun i z => wr (31 * z + at_ W 15 i)) 0 (frm W).toNat (itR (fun i z => wr (31 * z + at_ W 13 i)) 0 (nB W).toNat (itR (fun i z => wr (31 * z + at_ W 11 i)) 0 (nS W).toNat (itR (fun i z => wr (31 * z + at_ W 6 i)) 0 (nA W).toNat 1)))
theorem ok_digest (hI : Inv S)   : ∃ r S2, fn_FP_digest 0 S = some r ∧ fn_Mo_digest 514 S = some (r, S2) ∧ Inv S2 := by
  obtain ⟨W, n, hs, hG, hH, hP⟩ := hI
  have h := hP.1.1
  have hM := hP.1.2
  have hM1 : MV (u S 514 4 0) W := hM.thr
  have b := hM.b
  refine ⟨digW W, u S 514 4 0, ?_, ?_, W, n, hs, hG, hH, hP.thr⟩
  · unfold fn_FP_digest
    rw [tg_0_3, tg_5_0, F_digA h, bnO_s, F_digS h, bnO_s, F_digB h, bnO_s, F_digF h, bnO_s]
    rfl
  · unfold fn_Mo_digest
    rw [nm_x]
    rw [M_digA hM1, bnO_s, M_digS hM1, bnO_s, M_digB hM1, bnO_s, M_digF hM1, bnO_s]
    rfl
theorem ok_describedByte (hI : Inv S) {a : Int} (hi_a : inR a) : ∃ r S2, fn_FP_describedByte 0 a S = some r ∧ fn_Mo_describedByte 514 a S = some (r, S2) ∧ Inv S2 := by
  obtain ⟨W, n, hs, hG, hH, hP⟩ := hI
  obtain ⟨d1, d2, d3⟩ := hP.2.2.2.2
  have e12 : g (u S 514 4 0) 514 12 = g S 3 1 := by rw [g_ne (by omega)]; exact d2
  refine ⟨if 0 ≤ a ∧ a < g S 3 1 then g S 4 a.toNat else -1, u S 514 4 0, ?_, ?_, W, n, hs, hG, hH, hP.thr⟩
  · unfold fn_FP_describedByte fn_Bytes_byteAt
    rw [tg_0_5, tg_3_0, show ((ln 4 : Nat) : Int) = 20 from rfl]
    by_cases c1 : a < 0
    · rw [if_pos c1, if_neg (by omega : ¬ (0 ≤ a ∧ a < g S 3 1))]
    · rw [if_neg c1]
      by_cases c2 : g S 3 1 ≤ a
      · rw [if_pos c2, if_neg (by omega : ¬ (0 ≤ a ∧ a < g S 3 1))]
      · rw [if_neg c2, if_neg (by omega : ¬ 20 ≤ a), if_pos (by omega : 0 ≤ a ∧ a < 20), if_pos (by omega : 0 ≤ a ∧ a < g S 3 1), if_neg c1, bnO_s]
  · unfold fn_Mo_describedByte
    rw [nm_x, e12, nm_x, wr_s (by omega) (by omega), Mo_inRange, bnO_s]
    by_cases c : 0 ≤ a ∧ a < g S 3 1
    · rw [if_pos c, if_pos (decide_eq_true (by omega : 0 ≤ a ∧ a ≤ g S 3 1 - 1)), if_pos (by omega : 0 ≤ a ∧ a < 60), tg_514_11, g_ne (by omega), d3 a c.1 c.2]
    · rw [if_neg c, decide_eq_false (by omega : ¬ (0 ≤ a ∧ a ≤ g S 3 1 - 1)), if_neg Bool.false_ne_true]
def cntA (W : Vw) : Int := wr (sumA W (fun a => if at_ W 6 a ≤ 0 then 0 else 1))
def cntS (W : Vw) : Int := wr (sumS W (fun a => if at_ W 11 a ≤ 0 then 0 else 1))
def cntB (W : Vw) : Int := wr (sumB W (fun a => if at_ W 13 a ≤ 0 then 0 else 1))
def cntF (W : Vw) (k : Nat) : Int := wr (sumR (fun f => at_ W k f) 0 (frm W).toNat)
theorem F_plA (h : PT S 5 W) : fn_FP_placed 40 14 (nA W) S = some (cntA W) := by
  have b := h.pl.b
  rw [F_placed (by omega) (by omega) (by decide)]
  refine congrArg (fun z => some (wr z)) (sumR_congr (fun j h1 h2 => ?_))
  have e : g S 14 j.toNat = at_ W 6 j := h.pl.a6 ⟨h1, by omega⟩
  have v := h.v.2.1 j h1 (by omega)
  rw [e]
  by_cases c : at_ W 6 j = 0
  · rw [if_pos c, if_pos (by omega)]
  · rw [if_neg c, if_neg (by omega)]
theorem F_plS (h : PT S 5 W) : fn_FP_placed 10 20 (nS W) S = some (cntS W) := by
  have b := h.pl.b
  rw [F_placed (by omega) (by omega) (by decide)]
  refine congrArg (fun z => some (wr z)) (sumR_congr (fun j h1 h2 => ?_))
  have e : g S 20 j.toNat = at_ W 11 j := h.pl.s4 ⟨h1, by omega⟩
  have v := h.v.2.2.1 j h1 (by omega)
  rw [e]
  by_cases c : at_ W 11 j = 0
  · rw [if_pos c, if_pos (by omega)]
  · rw [if_neg c, if_neg (by omega)]
theorem F_plB (h : PT S 5 W) : fn_FP_placed 8 23 (nB W) S = some (cntB W) := by
  have b := h.pl.b
  rw [F_placed (by omega) (by omega) (by decide)]
  refine congrArg (fun z => some (wr z)) (sumR_congr (fun j h1 h2 => ?_))
  have e : g S 23 j.toNat = at_ W 13 j := h.pl.b1 ⟨h1, by omega⟩
  have v := h.v.2.2.2.1 j h1 (by omega)
  rw [e]
  by_cases c : at_ W 13 j = 0
  · rw [if_pos c, if_pos (by omega)]
  · rw [if_neg c, if_neg (by omega)]
theorem F_plF (h : PT S 5 W) {k : Nat} (hk : k = 0 ∨ k = 1) : fn_FP_placed 8 (25 + k) (frm W) S = some (cntF W (14 + k)) := by
  have fb := frm_b h.v
  rw [F_placed (by omega) (by omega) (by decide)]
  refine congrArg (fun z => some (wr z)) (sumR_congr (fun j h1 h2 => ?_))
  have v := h.v.2.2.2.2 j h1 (by have e : frm W = 2 * sg W := rfl; omega)
  have e : g S (25 + k) j.toNat = at_ W (14 + k) j := by
    have q := h.pl.fm (a := j) ⟨h1, by omega⟩ k (by omega)
    rw [show 14 + k = k + 14 by omega, show 25 + k = 5 + 20 + k by omega]; exact q
  rw [e]
  rcases hk with rfl | rfl
  · show (if at_ W 14 j = 0 then (0 : Int) else 1) = at_ W 14 j
    split <;> omega
  · show (if at_ W 15 j = 0 then (0 : Int) else 1) = at_ W 15 j
    split <;> omega
def q_count (W : Vw) (y : Int) : Int := if y = 0 then pgs W else if y = 1 then sg W else if y = 2 then frm W else if y = 3 then nA W else if y = 4 then nS W else if y = 5 then nB W else if y = 6 then tm W else if y = 7 then cntA W else if y = 8 then cntS W else if y = 9 then cntB W else if y = 10 then cntF W 15 else if y = 11 then cntF W 14 else -1
theorem ok_count (hI : Inv S) {y : Int} (hi_y : inR y) : ∃ r S2, fn_FP_count 0 y S = some r ∧ fn_Mo_count 514 y S = some (r, S2) ∧ Inv S2 := by
  obtain ⟨W, n, hs, hG, hH, hP⟩ := hI
  have h := hP.1.1
  have hM := hP.1.2
  have hM1 : MV (u S 514 4 0) W := hM.thr
  have b := hM.b
  refine ⟨q_count W y, u S 514 4 0, ?_, ?_, W, n, hs, hG, hH, hP.thr⟩
  · unfold fn_FP_count
    unfold q_count
    by_cases d0 : y = 0
    · rw [if_pos d0, if_pos d0]
      have e : g S 5 1 = pgs W := h.pl.gp
      rw [tg_0_3, e]
    · rw [if_neg d0, if_neg d0]
      by_cases d1 : y = 1
      · rw [if_pos d1, if_pos d1]
        have e : g S 6 4 = sg W := h.pl.msg
        rw [tg_0_3, tg_5_0, e]
      · rw [if_neg d1, if_neg d1]
        by_cases d2 : y = 2
        · rw [if_pos d2, if_pos d2]
          have e : g S 5 2 = frm W := h.pl.gf
          rw [tg_0_3, e]
        · rw [if_neg d2, if_neg d2]
          by_cases d3 : y = 3
          · rw [if_pos d3, if_pos d3]
            have e : g S 7 7 = nA W := h.pl.mA
            rw [tg_0_3, tg_5_0, tg_6_0, e]
          · rw [if_neg d3, if_neg d3]
            by_cases d4 : y = 4
            · rw [if_pos d4, if_pos d4]
              have e : g S 15 5 = nS W := h.pl.mS
              rw [tg_0_3, tg_5_0, tg_6_1, e]
            · rw [if_neg d4, if_neg d4]
              by_cases d5 : y = 5
              · rw [if_pos d5, if_pos d5]
                have e : g S 21 2 = nB W := h.pl.mB
                rw [tg_0_3, tg_5_0, tg_6_2, e]
              · rw [if_neg d5, if_neg d5]
                by_cases d6 : y = 6
                · rw [if_pos d6, if_pos d6]
                  have e : g S 6 6 = tm W := h.pl.mtm
                  rw [tg_0_3, tg_5_0, e]
                · rw [if_neg d6, if_neg d6]
                  by_cases d7 : y = 7
                  · rw [if_pos d7, if_pos d7]
                    have e : g S 7 7 = nA W := h.pl.mA
                    rw [tg_0_3, tg_5_0, tg_6_0, tg_7_6, e, F_plA h, bnO_s]
                  · rw [if_neg d7, if_neg d7]
                    by_cases d8 : y = 8
                    · rw [if_pos d8, if_pos d8]
                      have e : g S 15 5 = nS W := h.pl.mS
                      rw [tg_0_3, tg_5_0, tg_6_1, tg_15_4, e, F_plS h, bnO_s]
                    · rw [if_neg d8, if_neg d8]
                      by_cases d9 : y = 9
                      · rw [if_pos d9, if_pos d9]
                        have e : g S 21 2 = nB W := h.pl.mB
                        rw [tg_0_3, tg_5_0, tg_6_2, tg_21_1, e, F_plB h, bnO_s]
                      · rw [if_neg d9, if_neg d9]
                        by_cases d10 : y = 10
                        · rw [if_pos d10, if_pos d10]
                          have e : g S 5 2 = frm W := h.pl.gf
                          have ep : fn_FP_placed 8 26 (frm W) S = some (cntF W 15) := F_plF h (k := 1) (.inr rfl)
                          rw [tg_0_3, tg_5_0, tg_6_3, tg_24_1, e, ep, bnO_s]
                        · rw [if_neg d10, if_neg d10]
                          by_cases d11 : y = 11
                          · rw [if_pos d11, if_pos d11]
                            have e : g S 5 2 = frm W := h.pl.gf
                            have ep : fn_FP_placed 8 25 (frm W) S = some (cntF W 14) := F_plF h (k := 0) (.inl rfl)
                            rw [tg_0_3, tg_5_0, tg_6_3, tg_24_0, e, ep, bnO_s]
                          · rw [if_neg d11, if_neg d11]
  · unfold fn_Mo_count
    rw [nm_x]
    unfold q_count
    by_cases d0 : y = 0
    · rw [if_pos d0, if_pos d0]
      rw [Mo_pageMany hM1, bnO_s]
    · rw [if_neg d0, if_neg d0]
      by_cases d1 : y = 1
      · rw [if_pos d1, if_pos d1]
        rw [hM1.msg]
      · rw [if_neg d1, if_neg d1]
        by_cases d2 : y = 2
        · rw [if_pos d2, if_pos d2]
          rw [Mo_formMany hM1, bnO_s]
        · rw [if_neg d2, if_neg d2]
          by_cases d3 : y = 3
          · rw [if_pos d3, if_pos d3]
            rw [tg_514_0, hM1.mA]
          · rw [if_neg d3, if_neg d3]
            by_cases d4 : y = 4
            · rw [if_pos d4, if_pos d4]
              rw [tg_514_0, hM1.mS]
            · rw [if_neg d4, if_neg d4]
              by_cases d5 : y = 5
              · rw [if_pos d5, if_pos d5]
                rw [tg_514_0, hM1.mB]
              · rw [if_neg d5, if_neg d5]
                by_cases d6 : y = 6
                · rw [if_pos d6, if_pos d6]
                  rw [tg_514_0, hM1.mtm]
                · rw [if_neg d6, if_neg d6]
                  by_cases d7 : y = 7
                  · rw [if_pos d7, if_pos d7]
                    unfold fn_Mo_placedAds; rw [Mo_plA0 hM1 (inRk rfl), bnO_s, bnO_s, Int.zero_add]; rfl
                  · rw [if_neg d7, if_neg d7]
                    by_cases d8 : y = 8
                    · rw [if_pos d8, if_pos d8]
                      unfold fn_Mo_placedStories; rw [Mo_plS0 hM1 (inRk rfl), bnO_s, bnO_s, Int.zero_add]; rfl
                    · rw [if_neg d8, if_neg d8]
                      by_cases d9 : y = 9
                      · rw [if_pos d9, if_pos d9]
                        unfold fn_Mo_usedStandbys; rw [Mo_plB0 hM1 (inRk rfl), bnO_s, bnO_s, Int.zero_add]; rfl
                      · rw [if_neg d9, if_neg d9]
                        by_cases d10 : y = 10
                        · rw [if_pos d10, if_pos d10]
                          unfold fn_Mo_formsWith; rw [Mo_foW1 hM1 (inRk rfl), bnO_s, bnO_s, Int.zero_add]; rfl
                        · rw [if_neg d10, if_neg d10]
                          by_cases d11 : y = 11
                          · rw [if_pos d11, if_pos d11]
                            unfold fn_Mo_formsWith; rw [Mo_foW0 hM1 (inRk rfl), bnO_s, bnO_s, Int.zero_add]; rfl
                          · rw [if_neg d11, if_neg d11]
end Reads4
