section More
variable {S T : St} {W : Vw}
theorem ok_lay (hI : Inv S) {a p : Int} (hi_a : inR a) (hi_p : inR p) : ∃ e S1 r S2, fn_Law_lay 0 a p 524 S = some (e, S1) ∧ fn_Mo_lay 514 a p S1 = some (r, S2) ∧ Fin S2 e r := by
  obtain ⟨W, n, hs, hG, hH, hP⟩ := hI
  have h := hP.1.1
  have b := h.pl.b
  by_cases c : 0 ≤ a ∧ a < nS W
  · have v := h.v.2.2.1 a c.1 c.2
    have lb : 0 ≤ layR W a p ∧ layR W a p ≤ 5 := by
      have m := mnR_v (W := W) (s := a) (q := p) (n := (at_ W 7 a).toNat)
      unfold layR
      repeat' split
      all_goals omega
    have hF : fn_FP_lay 0 a p S = (if layR W a p = 1 then jf_FP_lay_33 0 a p 1 S else if stPr W a = true then jf_FP_lay_33 0 a p 2 S else jf_FP_lay_33 0 a p (layR W a p) S) := by
      unfold fn_FP_lay
      rw [F_needStory h, if_pos c, bnO_s, if_pos rfl, tg_0_3, P_layReason h c hi_p, bnO_s, P_storyIsPrinted h.pl c, bnO_s]
      by_cases d : layR W a p = 1
      · rw [if_pos d, if_pos d, d]
      · rw [if_neg d, if_neg d]
    have hM : ∀ T, MV T W → fn_Mo_lay 514 a p T = (if layR W a p = 1 then some (1, u T 514 4 0) else if stPr W a = true then some (2, u T 514 4 0) else if layR W a p ≤ 0 then (bnO (fn_Mo_record 514 (u T 514 4 0)) fun p13 => some (0, u p13 515 (309 + 5 * a + 4).toNat p)) else some (layR W a p, u T 514 4 0)) := by
      intro T hT
      have hM1 : MV (u T 514 4 0) W := hT.thr
      have eA : fn_Mo_isStory 514 a (u T 514 4 0) = some true := by rw [Mo_isStory hM1, decide_eq_true c]
      unfold fn_Mo_lay jf_Mo_lay_19
      simp only [nm_x, eA, bnO_s, Mo_thr0, if_true, if_false, Bool.false_eq_true, Mo_storyReasonOf hM1 hG c hi_p, Mo_isStoryPrinted hM1 c, if_pos (by omega : 0 ≤ 309 + 5 * a + 4 ∧ 309 + 5 * a + 4 < 8740), tg_514_0]
      by_cases d : layR W a p = 1
      · rw [if_pos d, if_pos d, if_neg (by omega : ¬ layR W a p ≤ 0), d]
      · rw [if_neg d, if_neg d]
    have ref : ∀ r, r ≠ 0 → inR r → fn_FP_lay 0 a p S = some (0, r, S) → (∀ T, MV T W → fn_Mo_lay 514 a p T = some (r, u T 514 4 0)) → ∃ e S1 r S2, fn_Law_lay 0 a p 524 S = some (e, S1) ∧ fn_Mo_lay 514 a p S1 = some (r, S2) ∧ Fin S2 e r := by
      intro r _ hr h1 h2
      refine ⟨0, ul S 524 0 r, r, _, ?_, h2 _ (hP.out (Off.wtl (by omega) (by omega))).1.2, fin0 hG hH hP hr⟩
      unfold fn_Law_lay
      rw [h1]; rfl
    by_cases d : layR W a p = 1
    · refine ref 1 (by decide) (inRk rfl) ?_ (fun T hT => ?_)
      · rw [hF, if_pos d]; rfl
      · rw [hM T hT, if_pos d]
    · by_cases d2 : stPr W a = true
      · refine ref 2 (by decide) (inRk rfl) ?_ (fun T hT => ?_)
        · rw [hF, if_neg d, if_pos d2]; rfl
        · rw [hM T hT, if_neg d, if_pos d2]
      · by_cases d3 : layR W a p = 0
        · have hG' := Good_setS hG c (.inr d3)
          obtain ⟨S1, e1, c1⟩ := CR.keepG hP
          have vv : vC (u S1 20 a.toNat p) 6 = up W 11 a.toNat p := K_vS (k := 11) (by decide) c1.2.1.pl.1.2.1 c hi_p
          obtain ⟨S3, e3, c3⟩ := c1.page (k := 11) (S2 := u S1 20 a.toNat p) (by decide) vv ⟨hG'.1, hG'.2.1⟩ (Off.wt (by omega) (by omega))
          have m0 := rm_out (r := 0) hP c3
          obtain ⟨T1, f1, r1⟩ := (RM.begin m0.1 m0.2).record hP.2.1.1.1 hH
          have r2 := r1.story (k := 11) (by decide) c hi_p hG'.1
          refine ⟨0, ul S3 524 0 0, 0, u T1 515 (309 + 5 * a + 4).toNat p, ?_, ?_, fin2 hP hG' (hH.push hG) c3 (inRk rfl) r2⟩
          · have : fn_FP_lay 0 a p S = some (0, 0, S3) := by
              rw [hF, if_neg d, if_neg d2, d3]
              unfold jf_FP_lay_33
              rw [if_pos rfl, tg_0_4, tg_0_3, tg_5_0, e1, bnO_s, if_pos (by omega : 0 ≤ a ∧ a < 10), nm_x, tg_6_1, tg_15_4, e3, bnO_s]
            unfold fn_Law_lay
            rw [this]; rfl
          · rw [hM _ m0.1, if_neg d, if_neg d2, if_pos (by omega), f1, bnO_s]
        · refine ref (layR W a p) d3 ⟨by omega, by omega⟩ ?_ (fun T hT => ?_)
          · rw [hF, if_neg d, if_neg d2]
            unfold jf_FP_lay_33
            rw [if_neg d3]
          · rw [hM T hT, if_neg d, if_neg d2, if_neg (by omega)]
  · refine ⟨1, S, 0, u (u S 514 4 0) 514 4 1, ?_, ?_, fin1 hG hH hP (.inl rfl)⟩
    · unfold fn_Law_lay fn_FP_lay
      rw [F_needStory h, if_neg c]; rfl
    · have hM1 : MV (u S 514 4 0) W := hP.1.2.thr
      have eA : fn_Mo_isStory 514 a (u S 514 4 0) = some false := by rw [Mo_isStory hM1, decide_eq_false c]
      unfold fn_Mo_lay jf_Mo_lay_19
      simp only [nm_x, eA, bnO_s, Mo_thr1, if_true, if_false, Bool.false_eq_true]
theorem ok_takeStory (hI : Inv S) {a : Int} (hi_a : inR a) : ∃ e S1 b S2, fn_Law_takeStory 0 a 524 S = some (e, S1) ∧ fn_Mo_takeStory 514 a S1 = some (b, S2) ∧ Fin S2 e (bi b) := by
  obtain ⟨W, n, hs, hG, hH, hP⟩ := hI
  have h := hP.1.1
  have b := h.pl.b
  by_cases c : 0 ≤ a ∧ a < nS W
  · have v := h.v.2.2.1 a c.1 c.2
    have e6 : g S 20 a.toNat = at_ W 11 a := h.pl.s4 c
    have hF : fn_FP_takeStory 0 a S = (if at_ W 11 a = 0 then some (0, false, S) else if stPr W a = true then some (0, false, S) else bnO (fn_History_keep 63 6 S) fun p5 => bnO (fn_Plan_recount 5 (u p5 20 a.toNat 0)) fun p7 => some (0, true, p7)) := by
      unfold fn_FP_takeStory
      rw [F_needStory h, if_pos c, bnO_s, if_pos rfl, if_pos (by omega : 0 ≤ a ∧ a < 10)]
      simp only [tg_0_3, tg_0_4, tg_5_0, tg_6_1, tg_15_4, e6, nm_x, P_storyIsPrinted h.pl c, bnO_s]
    have hM : ∀ T, MV T W → fn_Mo_takeStory 514 a T = (if at_ W 11 a = 0 then some (false, u T 514 4 0) else if stPr W a = true then some (false, u T 514 4 0) else bnO (fn_Mo_record 514 (u T 514 4 0)) fun p10 => some (true, u p10 515 (309 + 5 * a + 4).toNat 0)) := by
      intro T hT
      have hM1 : MV (u T 514 4 0) W := hT.thr
      have eA : fn_Mo_isStory 514 a (u T 514 4 0) = some true := by rw [Mo_isStory hM1, decide_eq_true c]
      have e6' : fn_Mo_ofStory 514 a 4 (u T 514 4 0) = some (at_ W 11 a) := Mo_ofStory hM1 (k := 4) (by omega) c
      unfold fn_Mo_takeStory
      simp only [nm_x, eA, bnO_s, Mo_thr0, if_true, if_false, Bool.false_eq_true, e6', Mo_isStoryPrinted hM1 c, if_pos (by omega : 0 ≤ 309 + 5 * a + 4 ∧ 309 + 5 * a + 4 < 8740), tg_514_0]
    have ref : fn_FP_takeStory 0 a S = some (0, false, S) → (∀ T, MV T W → fn_Mo_takeStory 514 a T = some (false, u T 514 4 0)) → ∃ e S1 b S2, fn_Law_takeStory 0 a 524 S = some (e, S1) ∧ fn_Mo_takeStory 514 a S1 = some (b, S2) ∧ Fin S2 e (bi b) := by
      intro h1 h2
      refine ⟨0, ul S 524 0 0, false, _, ?_, h2 _ (hP.out (Off.wtl (by omega) (by omega))).1.2, fin0 hG hH hP (inRk rfl)⟩
      unfold fn_Law_takeStory
      rw [h1]; rfl
    by_cases d : at_ W 11 a = 0
    · exact ref (by rw [hF, if_pos d]) (fun T hT => by rw [hM T hT, if_pos d])
    · by_cases d2 : stPr W a = true
      · exact ref (by rw [hF, if_neg d, if_pos d2]) (fun T hT => by rw [hM T hT, if_neg d, if_pos d2])
      · have hG' := Good_setS hG c (p := 0) (.inl rfl)
        obtain ⟨S1, e1, c1⟩ := CR.keepG hP
        have vv : vC (u S1 20 a.toNat 0) 6 = up W 11 a.toNat 0 := K_vS (k := 11) (by decide) c1.2.1.pl.1.2.1 c (inRk rfl)
        obtain ⟨S3, e3, c3⟩ := c1.page (k := 11) (S2 := u S1 20 a.toNat 0) (by decide) vv ⟨hG'.1, hG'.2.1⟩ (Off.wt (by omega) (by omega))
        have m0 := rm_out (r := 1) hP c3
        obtain ⟨T1, f1, r1⟩ := (RM.begin m0.1 m0.2).record hP.2.1.1.1 hH
        have r2 := r1.story (k := 11) (by decide) c (inRk rfl) hG'.1
        refine ⟨0, ul S3 524 0 1, true, u T1 515 (309 + 5 * a + 4).toNat 0, ?_, ?_, fin2 hP hG' (hH.push hG) c3 (inRk rfl) r2⟩
        · have : fn_FP_takeStory 0 a S = some (0, true, S3) := by rw [hF, if_neg d, if_neg d2, e1, bnO_s, e3, bnO_s]
          unfold fn_Law_takeStory
          rw [this]; rfl
        · rw [hM _ m0.1, if_neg d, if_neg d2, f1, bnO_s]
  · refine ⟨1, S, false, u (u S 514 4 0) 514 4 1, ?_, ?_, fin1 hG hH hP (.inl rfl)⟩
    · unfold fn_Law_takeStory fn_FP_takeStory
      rw [F_needStory h, if_neg c]; rfl
    · have hM1 : MV (u S 514 4 0) W := hP.1.2.thr
      have eA : fn_Mo_isStory 514 a (u S 514 4 0) = some false := by rw [Mo_isStory hM1, decide_eq_false c]
      unfold fn_Mo_takeStory
      simp only [nm_x, eA, bnO_s, Mo_thr1, if_true, if_false, Bool.false_eq_true]
theorem ok_setAd (hI : Inv S) {a x p : Int} (hi_a : inR a) (hx : x = 0 ∨ x = 1) (hi_p : inR p) : ∃ e S1 b S2, fn_Law_setAd 0 a x p 524 S = some (e, S1) ∧ fn_Mo_setAd 514 a x p S1 = some (b, S2) ∧ Fin S2 e (bi b) := by
  obtain ⟨W, n, hs, hG, hH, hP⟩ := hI
  have h := hP.1.1
  have b := h.pl.b
  by_cases c : 0 ≤ a ∧ a < nA W
  · have v := h.v.2.1 a c.1 c.2
    by_cases d : 0 ≤ p ∧ p ≤ 2
    · have e6 : g S 14 a.toNat = at_ W 6 a := h.pl.a6 c
      by_cases d0 : at_ W 6 a = 0
      · have hG1 := Good_other hG (k := 2) (i := a) (z := x) c.1 (.inl ⟨rfl, hx, d0⟩)
        have hG2 := Good_other hG1 (k := 3) (i := a) (z := p) c.1 (.inr (.inl ⟨rfl, d, by rw [at_upn (by decide)]; exact d0⟩))
        have c' : 0 ≤ a ∧ a < nA (up W 2 a.toNat x) := by rw [nA_up (by decide)]; exact c
        have hix : inR x := by rcases hx with rfl | rfl <;> exact inRk rfl
        obtain ⟨S1, e1, c1⟩ := CR.keepG hP
        have vv : vC (u S1 10 a.toNat x) 6 = up W 2 a.toNat x := K_vA (k := 2) (by decide) c1.2.1.pl.1.2.1 c hix
        have c2 := c1.row (k := 2) (S2 := u S1 10 a.toNat x) (by decide) vv ⟨hG1.1, hG1.2.1⟩ (Off.wt (by omega) (by omega))
        have vv3 : vC (u (u S1 10 a.toNat x) 11 a.toNat p) 6 = up (up W 2 a.toNat x) 3 a.toNat p := K_vA (k := 3) (by decide) vv c' hi_p
        have c3 := c2.row (k := 3) (S2 := u (u S1 10 a.toNat x) 11 a.toNat p) (by decide) vv3 ⟨hG2.1, hG2.2.1⟩ (Off.wt (by omega) (by omega))
        have m0 := rm_out (r := 1) hP c3
        have hM1 : MV (u (ul (u (u S1 10 a.toNat x) 11 a.toNat p) 524 0 1) 514 4 0) W := m0.1.thr
        obtain ⟨T1, f1, r1⟩ := (RM.begin m0.1 m0.2).record hP.2.1.1.1 hH
        obtain ⟨T2, f2, r2⟩ := r1.ad (k := 2) (by decide) c hix hG1.1
        obtain ⟨T3, f3, r3⟩ := r2.ad (k := 3) (by decide) c' hi_p hG2.1
        have f2' : fn_Mo_setOfAd 514 a 2 x T1 = some T2 := f2
        have f3' : fn_Mo_setOfAd 514 a 3 p T2 = some T3 := f3
        refine ⟨0, ul (u (u S1 10 a.toNat x) 11 a.toNat p) 524 0 1, true, T3, ?_, ?_, fin2 hP hG2 (hH.push hG) c3 (inRk rfl) r3⟩
        · have : fn_FP_setAd 0 a x p S = some (0, true, u (u S1 10 a.toNat x) 11 a.toNat p) := by
            unfold fn_FP_setAd
            rw [F_needAd h, if_pos c, bnO_s, if_pos rfl, if_neg (by omega : ¬ p < 0), if_pos d.2, if_pos (by omega : 0 ≤ a ∧ a < 40), tg_0_4, tg_0_3, tg_5_0, tg_6_0, tg_7_6, e6, if_pos d0, e1, bnO_s, tg_7_2, tg_7_3]
            rcases hx with rfl | rfl
            · rfl
            · rfl
          unfold fn_Law_setAd
          rw [this]; rfl
        · have eA : fn_Mo_isAd 514 a (u (ul (u (u S1 10 a.toNat x) 11 a.toNat p) 524 0 1) 514 4 0) = some true := by rw [Mo_isAd hM1, decide_eq_true c]
          have e6' : fn_Mo_ofAd 514 a 6 (u (ul (u (u S1 10 a.toNat x) 11 a.toNat p) 524 0 1) 514 4 0) = some (at_ W 6 a) := Mo_ofAd hM1 (k := 6) (by omega) c
          unfold fn_Mo_setAd jf_Mo_setAd_19
          rw [nm_x, eA, bnO_s, if_pos rfl, Mo_thr0, bnO_s, if_neg Bool.false_ne_true, Mo_inRange, bnO_s, if_pos (decide_eq_true d), Mo_thr0, bnO_s, if_neg Bool.false_ne_true, e6', bnO_s, if_pos (by omega : at_ W 6 a ≤ 0), f1, bnO_s]
          rcases hx with rfl | rfl
          · rw [if_pos rfl, f2', bnO_s, f3', bnO_s]
          · rw [if_neg (by decide), f2', bnO_s, f3', bnO_s]
      · refine ⟨0, ul S 524 0 0, false, _, ?_, ?_, fin0 hG hH hP (inRk rfl)⟩
        · unfold fn_Law_setAd fn_FP_setAd
          rw [F_needAd h, if_pos c, bnO_s, if_pos rfl, if_neg (by omega : ¬ p < 0), if_pos d.2, if_pos (by omega : 0 ≤ a ∧ a < 40), tg_0_3, tg_5_0, tg_6_0, tg_7_6, e6, if_neg d0]; rfl
        · have hM1 : MV (u (ul S 524 0 0) 514 4 0) W := (hP.out (Off.wtl (by omega) (by omega))).1.2.thr
          have eA : fn_Mo_isAd 514 a (u (ul S 524 0 0) 514 4 0) = some true := by rw [Mo_isAd hM1, decide_eq_true c]
          have e6' : fn_Mo_ofAd 514 a 6 (u (ul S 524 0 0) 514 4 0) = some (at_ W 6 a) := Mo_ofAd hM1 (k := 6) (by omega) c
          unfold fn_Mo_setAd jf_Mo_setAd_19
          rw [nm_x, eA, bnO_s, if_pos rfl, Mo_thr0, bnO_s, if_neg Bool.false_ne_true, Mo_inRange, bnO_s, if_pos (decide_eq_true d), Mo_thr0, bnO_s, if_neg Bool.false_ne_true, e6', bnO_s, if_neg (by omega : ¬ at_ W 6 a ≤ 0)]
          rfl
    · refine ⟨2, S, false, u (u S 514 4 0) 514 4 2, ?_, ?_, fin1 hG hH hP (.inr rfl)⟩
      · have : fn_FP_setAd 0 a x p S = some (2, false, S) := by
          unfold fn_FP_setAd
          rw [F_needAd h, if_pos c, bnO_s, if_pos rfl]
          by_cases d1 : p < 0
          · rw [if_pos d1]
          · rw [if_neg d1, if_neg (by omega : ¬ p ≤ 2)]
        unfold fn_Law_setAd
        rw [this]; rfl
      · have hM1 : MV (u S 514 4 0) W := hP.1.2.thr
        have eA : fn_Mo_isAd 514 a (u S 514 4 0) = some true := by rw [Mo_isAd hM1, decide_eq_true c]
        unfold fn_Mo_setAd jf_Mo_setAd_19
        simp only [nm_x, eA, bnO_s, Mo_thr0, Mo_thr1, if_true, if_false, Bool.false_eq_true, Mo_inRange, decide_eq_false d]
  · refine ⟨1, S, false, u (u S 514 4 0) 514 4 1, ?_, ?_, fin1 hG hH hP (.inl rfl)⟩
    · unfold fn_Law_setAd fn_FP_setAd
      rw [F_needAd h, if_neg c]; rfl
    · have hM1 : MV (u S 514 4 0) W := hP.1.2.thr
      have eA : fn_Mo_isAd 514 a (u S 514 4 0) = some false := by rw [Mo_isAd hM1, decide_eq_false c]
      unfold fn_Mo_setAd jf_Mo_setAd_19
      simp only [nm_x, eA, bnO_s, Mo_thr1, if_true, if_false, Bool.false_eq_true]
/-- a form's color -/
theorem Good_color (hG : Good W) {f z : Int} (hf : 0 ≤ f ∧ f < frm W) (hz : z = 1 ∨ (z = 0 ∧ hasC W f = false)) : Good (up W 14 f.toNat z) := by
  obtain ⟨hV, hW, hF, hD⟩ := hG
  have hV' : Val (up W 14 f.toNat z) := Val_up hV hf.1 (.inr (.inr (.inr (.inr (.inr (.inr (.inl ⟨rfl, by omega⟩)))))))
  refine ⟨hV', ⟨fun q q1 q2 => ?_, fun s s1 s2 q qc => ?_⟩, fun a a1 a2 a3 => ?_, fun x x1 x2 x3 => ?_⟩
  · rw [pgs_up (by decide)] at q2
    rw [rawR_up (.inr (by decide)) (by decide)]; exact hW.1 q q1 q2
  · rw [nS_up (by decide)] at s2
    rw [cov_up (by decide) (by decide)] at qc
    have w := hW.2 s s1 s2 q qc
    refine ⟨fun a a1 a2 => ?_, fun b b1 b2 => ?_, fun t t1 t2 t3 => ?_⟩
    · rw [nA_up (by decide)] at a2
      rw [at_upn (k' := 6) (by decide)]; exact w.1 a a1 a2
    · rw [nB_up (by decide)] at b2
      rw [at_upn (k' := 13) (by decide)]; exact w.2.1 b b1 b2
    · rw [nS_up (by decide)] at t2
      rw [cov_up (by decide) (by decide)]; exact w.2.2 t t1 t2 t3
  · rw [nA_up (by decide)] at a2
    rw [at_upn (k' := 6) (by decide)] at a3 ⊢
    rw [at_upn (k' := 2) (by decide), at_upn (k' := 3) (by decide), rivl_up (by decide) (by decide) (by decide)]
    have q := hF a a1 a2 a3
    have v := hV.2.1 a a1 a2
    have fb := fOf_b hV (p := at_ W 6 a) (by omega) (by omega)
    refine ⟨fun e => ?_, q.2.1, q.2.2⟩
    have q1 := q.1 e
    unfold coP at q1 ⊢
    rw [fOf_up (by decide), at_upe fb.1 hf.1]
    by_cases c : fOf W (at_ W 6 a) = f
    · rw [if_pos c]
      rcases hz with hz | hz
      · exact decide_eq_true hz
      · exfalso
        have on : onF W a f = true := decide_eq_true ⟨a3, c⟩
        have : hasC W f = true := by
          unfold hasC anyA
          rw [Bool.or_eq_true]
          refine .inl (anyR_iff.mpr ⟨a, a1, by omega, ?_⟩)
          rw [on, Bool.true_and]; exact decide_eq_true e
        rw [hz.2] at this; cases this
    · rw [if_neg c]; exact q1
  · have ef : frm (up W 14 f.toNat z) = frm W := by unfold frm; rw [sg_up (by decide)]
    rw [ef] at x2
    rw [at_upn (k' := 15) (by decide)] at x3
    rw [at_upn (k' := 16) (by decide), tm_up (by decide)]
    exact hD x x1 x2 x3
theorem ok_setColor (hI : Inv S) {a x : Int} (hi_a : inR a) (hx : x = 0 ∨ x = 1) : ∃ e S1 b S2, fn_Law_setColor 0 a x 524 S = some (e, S1) ∧ fn_Mo_setColor 514 a x S1 = some (b, S2) ∧ Fin S2 e (bi b) := by
  obtain ⟨W, n, hs, hG, hH, hP⟩ := hI
  have h := hP.1.1
  have fb := frm_b h.v
  by_cases c : 0 ≤ a ∧ a < frm W
  · have e1' : g S 26 a.toNat = at_ W 15 a := h.pl.f1 c
    have hF : fn_FP_setColor 0 a x S = (if at_ W 15 a = 1 ∨ (x = 0 ∧ hasC W a = true) then some (0, false, S) else bnO (fn_History_keep 63 6 S) fun p9 => some (0, true, u p9 25 a.toNat x)) := by
      unfold fn_FP_setColor
      rw [F_needForm h, if_pos c, bnO_s, if_pos rfl, if_pos (by omega : 0 ≤ a ∧ a < 8), tg_0_3, tg_0_4, tg_5_0, tg_6_3, tg_24_1, tg_24_0, e1', P_hasColorItem h.pl c.1, bnO_s]
      by_cases d : at_ W 15 a = 1
      · rw [if_pos d, if_pos (.inl d : at_ W 15 a = 1 ∨ (x = 0 ∧ hasC W a = true))]
      · rw [if_neg d]
        rcases hx with rfl | rfl
        · rw [if_pos rfl]
          by_cases d2 : hasC W a = true
          · rw [if_pos d2, if_pos (.inr ⟨rfl, d2⟩ : at_ W 15 a = 1 ∨ ((0 : Int) = 0 ∧ hasC W a = true))]
          · rw [if_neg d2, if_neg (fun z => z.elim d (fun z => d2 z.2) : ¬ (at_ W 15 a = 1 ∨ ((0 : Int) = 0 ∧ hasC W a = true)))]; rfl
        · rw [if_neg (by decide : ¬ (1 : Int) = 0), if_neg (fun z => z.elim d (fun z => absurd z.1 (by decide)) : ¬ (at_ W 15 a = 1 ∨ ((1 : Int) = 0 ∧ hasC W a = true)))]; rfl
    have hM : ∀ T, MV T W → fn_Mo_setColor 514 a x T = (if at_ W 15 a = 1 ∨ (x = 0 ∧ hasC W a = true) then some (false, u T 514 4 0) else bnO (fn_Mo_record 514 (u T 514 4 0)) fun p9 => bnO (fn_Mo_setForm 514 a 0 x p9) fun p14 => some (true, p14)) := by
      intro T hT
      have hM1 : MV (u T 514 4 0) W := hT.thr
      have eA : fn_Mo_isForm 514 a (u T 514 4 0) = some true := by rw [Mo_isForm hM1, decide_eq_true c]
      have e' : fn_Mo_ofForm 514 a 1 (u T 514 4 0) = some (at_ W 15 a) := Mo_ofForm hM1 (k := 1) (by omega) c
      unfold fn_Mo_setColor jf_Mo_setColor_19
      rw [nm_x, eA, bnO_s, if_pos rfl, Mo_thr0, bnO_s, if_neg Bool.false_ne_true, e', bnO_s, Mo_hasColored hM1, bnO_s]
      by_cases d : at_ W 15 a = 1
      · rw [if_pos d, if_pos (.inl d : at_ W 15 a = 1 ∨ (x = 0 ∧ hasC W a = true))]
      · rw [if_neg d]
        rcases hx with rfl | rfl
        · rw [if_pos rfl]
          by_cases d2 : hasC W a = true
          · rw [if_pos d2, if_pos (.inr ⟨rfl, d2⟩ : at_ W 15 a = 1 ∨ ((0 : Int) = 0 ∧ hasC W a = true))]
          · rw [if_neg d2, if_neg (fun z => z.elim d (fun z => d2 z.2) : ¬ (at_ W 15 a = 1 ∨ ((0 : Int) = 0 ∧ hasC W a = true)))]; rfl
        · rw [if_neg (by decide : ¬ (1 : Int) = 0), if_neg (fun z => z.elim d (fun z => absurd z.1 (by decide)) : ¬ (at_ W 15 a = 1 ∨ ((1 : Int) = 0 ∧ hasC W a = true)))]; rfl
    by_cases d : at_ W 15 a = 1 ∨ (x = 0 ∧ hasC W a = true)
    · refine ⟨0, ul S 524 0 0, false, _, ?_, by rw [hM _ (hP.out (Off.wtl (by omega) (by omega))).1.2, if_pos d]; rfl, fin0 hG hH hP (inRk rfl)⟩
      unfold fn_Law_setColor
      rw [hF, if_pos d]; rfl
    · have hz : x = 1 ∨ (x = 0 ∧ hasC W a = false) := by
        rcases hx with hx | hx
        · right
          refine ⟨hx, ?_⟩
          cases e : hasC W a
          · rfl
          · exact absurd (.inr ⟨hx, e⟩) d
        · exact .inl hx
      have hix : inR x := by rcases hx with rfl | rfl <;> exact inRk rfl
      have hG' := Good_color hG c hz
      obtain ⟨S1, e1, c1⟩ := CR.keepG hP
      have vv : vC (u S1 25 a.toNat x) 6 = up W 14 a.toNat x := K_vF (k := 14) (by decide) c1.2.1.pl.1.2.1 c hix (fun z => by omega)
      have c3 := c1.row (k := 14) (S2 := u S1 25 a.toNat x) (by decide) vv ⟨hG'.1, hG'.2.1⟩ (Off.wt (by omega) (by omega))
      have m0 := rm_out (r := 1) hP c3
      obtain ⟨T1, f1, r1⟩ := (RM.begin m0.1 m0.2).record hP.2.1.1.1 hH
      obtain ⟨T2, f2, r2⟩ := r1.form (k := 14) (by decide) c hix hG'.1
      have f2' : fn_Mo_setForm 514 a 0 x T1 = some T2 := f2
      refine ⟨0, ul (u S1 25 a.toNat x) 524 0 1, true, T2, ?_, by rw [hM _ m0.1, if_neg d, f1, bnO_s, f2', bnO_s], fin2 hP hG' (hH.push hG) c3 (inRk rfl) r2⟩
      unfold fn_Law_setColor
      rw [hF, if_neg d, e1]; rfl
  · refine ⟨1, S, false, u (u S 514 4 0) 514 4 1, ?_, ?_, fin1 hG hH hP (.inl rfl)⟩
    · unfold fn_Law_setColor fn_FP_setColor
      rw [F_needForm h, if_neg c]; rfl
    · have hM1 : MV (u S 514 4 0) W := hP.1.2.thr
      have eA : fn_Mo_isForm 514 a (u S 514 4 0) = some false := by rw [Mo_isForm hM1, decide_eq_false c]
      unfold fn_Mo_setColor jf_Mo_setColor_19
      simp only [nm_x, eA, bnO_s, Mo_thr1, if_true, if_false, Bool.false_eq_true]
end More
