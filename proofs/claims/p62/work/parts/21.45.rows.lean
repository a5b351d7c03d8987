section Rows
variable {S : St}
theorem ok_take (hI : Inv S) {a : Int} (hi_a : inR a) : ∃ e S1 b S2, fn_Law_take 0 a 524 S = some (e, S1) ∧ fn_Mo_take 514 a S1 = some (b, S2) ∧ Fin S2 e (bi b) := by
  obtain ⟨W, n, hs, hG, hH, hP⟩ := hI
  have h := hP.1.1
  have b := h.pl.b
  by_cases c : 0 ≤ a ∧ a < nA W
  · have v := h.v.2.1 a c.1 c.2
    have e6 : g S 14 a.toNat = at_ W 6 a := h.pl.a6 c
    have hF : fn_FP_take 0 a S = (if at_ W 6 a = 0 then some (0, false, S) else if prP W (at_ W 6 a) = true then some (0, false, S) else bnO (fn_History_keep 63 6 S) fun p5 => bnO (fn_Plan_recount 5 (u p5 14 a.toNat 0)) fun p7 => some (0, true, p7)) := by
      unfold fn_FP_take
      rw [F_needAd h, if_pos c, bnO_s, if_pos rfl, if_pos (by omega : 0 ≤ a ∧ a < 40)]
      simp only [tg_0_3, tg_0_4, tg_5_0, tg_6_0, tg_7_6, e6, nm_x]
      by_cases d : at_ W 6 a = 0
      · rw [if_pos d, if_pos d]
      · rw [if_neg d, if_neg d, P_isPrinted1 h.pl (by omega) (by omega), bnO_s]
    have hM : ∀ T, MV T W → fn_Mo_take 514 a T = (if at_ W 6 a = 0 then some (false, u T 514 4 0) else if prP W (at_ W 6 a) = true then some (false, u T 514 4 0) else bnO (fn_Mo_record 514 (u T 514 4 0)) fun p10 => bnO (fn_Mo_setOfAd 514 a 6 0 p10) fun p11 => some (true, p11)) := by
      intro T hT
      have hM1 : MV (u T 514 4 0) W := hT.thr
      have eA : fn_Mo_isAd 514 a (u T 514 4 0) = some true := by rw [Mo_isAd hM1, decide_eq_true c]
      have e6' : fn_Mo_ofAd 514 a 6 (u T 514 4 0) = some (at_ W 6 a) := Mo_ofAd hM1 (k := 6) (by omega) c
      unfold fn_Mo_take
      simp only [nm_x, eA, bnO_s, Mo_thr0, if_true, if_false, Bool.false_eq_true, e6']
      by_cases d : at_ W 6 a = 0
      · rw [if_pos d, if_pos d]
      · rw [if_neg d, if_neg d, Mo_isPrinted hM1 (by omega), bnO_s]
    have ref : fn_FP_take 0 a S = some (0, false, S) → (∀ T, MV T W → fn_Mo_take 514 a T = some (false, u T 514 4 0)) → ∃ e S1 b S2, fn_Law_take 0 a 524 S = some (e, S1) ∧ fn_Mo_take 514 a S1 = some (b, S2) ∧ Fin S2 e (bi b) := by
      intro h1 h2
      refine ⟨0, ul S 524 0 0, false, _, ?_, h2 _ (hP.out (Off.wtl (by omega) (by omega))).1.2, fin0 hG hH hP (inRk rfl)⟩
      unfold fn_Law_take
      rw [h1]; rfl
    by_cases d : at_ W 6 a = 0
    · exact ref (by rw [hF, if_pos d]) (fun T hT => by rw [hM T hT, if_pos d])
    · by_cases d2 : prP W (at_ W 6 a) = true
      · exact ref (by rw [hF, if_neg d, if_pos d2]) (fun T hT => by rw [hM T hT, if_neg d, if_pos d2])
      · have hG' := Good_take hG c
        obtain ⟨S1, e1, c1⟩ := CR.keepG hP
        have vv : vC (u S1 14 a.toNat 0) 6 = up W 6 a.toNat 0 := K_vA (k := 6) (by decide) c1.2.1.pl.1.2.1 c (inRk rfl)
        obtain ⟨S3, e3, c3⟩ := c1.page (k := 6) (S2 := u S1 14 a.toNat 0) (by decide) vv ⟨hG'.1, hG'.2.1⟩ (Off.wt (by omega) (by omega))
        have m0 := rm_out (r := 1) hP c3
        obtain ⟨T1, f1, r1⟩ := (RM.begin m0.1 m0.2).record hP.2.1.1.1 hH
        obtain ⟨T2, f2, r2⟩ := r1.ad (k := 6) (by decide) c (inRk rfl) hG'.1
        have f2' : fn_Mo_setOfAd 514 a 6 0 T1 = some T2 := f2
        refine ⟨0, ul S3 524 0 1, true, T2, ?_, ?_, fin2 hP hG' (hH.push hG) c3 (inRk rfl) r2⟩
        · have : fn_FP_take 0 a S = some (0, true, S3) := by rw [hF, if_neg d, if_neg d2, e1, bnO_s, e3, bnO_s]
          unfold fn_Law_take
          rw [this]; rfl
        · rw [hM _ m0.1, if_neg d, if_neg d2, f1, bnO_s, f2', bnO_s]
  · refine ⟨1, S, false, u (u S 514 4 0) 514 4 1, ?_, ?_, fin1 hG hH hP (.inl rfl)⟩
    · unfold fn_Law_take fn_FP_take
      rw [F_needAd h, if_neg c]; rfl
    · have hM1 : MV (u S 514 4 0) W := hP.1.2.thr
      have eA : fn_Mo_isAd 514 a (u S 514 4 0) = some false := by rw [Mo_isAd hM1, decide_eq_false c]
      unfold fn_Mo_take
      simp only [nm_x, eA, bnO_s, Mo_thr1, if_true, if_false, Bool.false_eq_true]
theorem F_isPrice {z : Int} : fn_FP_isPrice z S = some (decide (1 ≤ z ∧ z ≤ 999)) := by
  unfold fn_FP_isPrice
  by_cases c1 : z < 1
  · rw [if_pos c1, decide_eq_false (by omega)]
  · rw [if_neg c1]
    by_cases c2 : 999 < z
    · rw [if_pos c2, decide_eq_false (by omega)]
    · rw [if_neg c2, decide_eq_true (by omega)]
theorem ok_setPrice (hI : Inv S) {a p : Int} (hi_a : inR a) (hi_p : inR p) : ∃ e S1 r S2, fn_Law_setPrice 0 a p 524 S = some (e, S1) ∧ fn_Mo_setPrice 514 a p S1 = some (r, S2) ∧ Fin S2 e r := by
  obtain ⟨W, n, hs, hG, hH, hP⟩ := hI
  have h := hP.1.1
  have b := h.pl.b
  by_cases c : 0 ≤ a ∧ a < nA W
  · have v := h.v.2.1 a c.1 c.2
    by_cases d : 1 ≤ p ∧ p ≤ 999
    · have hG' := Good_other hG (k := 4) (i := a) (z := p) c.1 (.inr (.inr (.inl ⟨rfl, d⟩)))
      obtain ⟨S1, e1, c1⟩ := CR.keepG hP
      have e4 : g S1 12 a.toNat = at_ W 4 a := c1.2.1.pl.a4 c
      have vv : vC (u S1 12 a.toNat p) 6 = up W 4 a.toNat p := K_vA (k := 4) (by decide) c1.2.1.pl.1.2.1 c hi_p
      have c3 := c1.row (k := 4) (S2 := u S1 12 a.toNat p) (by decide) vv ⟨hG'.1, hG'.2.1⟩ (Off.wt (by omega) (by omega))
      have m0 := rm_out (r := at_ W 4 a) hP c3
      have hM1 : MV (u (ul (u S1 12 a.toNat p) 524 0 (at_ W 4 a)) 514 4 0) W := m0.1.thr
      obtain ⟨T1, f1, r1⟩ := (RM.begin m0.1 m0.2).record hP.2.1.1.1 hH
      obtain ⟨T2, f2, r2⟩ := r1.ad (k := 4) (by decide) c hi_p hG'.1
      have f2' : fn_Mo_setOfAd 514 a 4 p T1 = some T2 := f2
      refine ⟨0, ul (u S1 12 a.toNat p) 524 0 (at_ W 4 a), at_ W 4 a, T2, ?_, ?_, fin2 hP hG' (hH.push hG) c3 ⟨by omega, by omega⟩ r2⟩
      · have : fn_FP_setPrice 0 a p S = some (0, at_ W 4 a, u S1 12 a.toNat p) := by
          unfold fn_FP_setPrice
          rw [F_needAd h, if_pos c, bnO_s, if_pos rfl, F_isPrice, bnO_s, if_pos (decide_eq_true d), tg_0_4, tg_0_3, tg_5_0, e1, bnO_s, if_pos (by omega : 0 ≤ a ∧ a < 40), nm_x, tg_6_0, tg_7_4, e4]
        unfold fn_Law_setPrice
        rw [this]; rfl
      · have eA : fn_Mo_isAd 514 a (u (ul (u S1 12 a.toNat p) 524 0 (at_ W 4 a)) 514 4 0) = some true := by rw [Mo_isAd hM1, decide_eq_true c]
        have e4' : fn_Mo_ofAd 514 a 4 (u (ul (u S1 12 a.toNat p) 524 0 (at_ W 4 a)) 514 4 0) = some (at_ W 4 a) := Mo_ofAd hM1 (k := 4) (by omega) c
        unfold fn_Mo_setPrice jf_Mo_setPrice_19
        simp only [nm_x, eA, bnO_s, Mo_thr0, if_true, if_false, Bool.false_eq_true, Mo_inRange, decide_eq_true d, e4', f1, f2']
    · refine ⟨2, S, 0, u (u S 514 4 0) 514 4 2, ?_, ?_, fin1 hG hH hP (.inr rfl)⟩
      · unfold fn_Law_setPrice fn_FP_setPrice
        rw [F_needAd h, if_pos c, bnO_s, if_pos rfl, F_isPrice, bnO_s, decide_eq_false d]; rfl
      · have hM1 : MV (u S 514 4 0) W := hP.1.2.thr
        have eA : fn_Mo_isAd 514 a (u S 514 4 0) = some true := by rw [Mo_isAd hM1, decide_eq_true c]
        unfold fn_Mo_setPrice jf_Mo_setPrice_19
        simp only [nm_x, eA, bnO_s, Mo_thr0, Mo_thr1, if_true, if_false, Bool.false_eq_true, Mo_inRange, decide_eq_false d]
  · refine ⟨1, S, 0, u (u S 514 4 0) 514 4 1, ?_, ?_, fin1 hG hH hP (.inl rfl)⟩
    · unfold fn_Law_setPrice fn_FP_setPrice
      rw [F_needAd h, if_neg c]; rfl
    · have hM1 : MV (u S 514 4 0) W := hP.1.2.thr
      have eA : fn_Mo_isAd 514 a (u S 514 4 0) = some false := by rw [Mo_isAd hM1, decide_eq_false c]
      unfold fn_Mo_setPrice jf_Mo_setPrice_19
      simp only [nm_x, eA, bnO_s, Mo_thr1, if_true, if_false, Bool.false_eq_true]
theorem ok_print (hI : Inv S) {a : Int} (hi_a : inR a) : ∃ e S1 r S2, fn_Law_print 0 a 524 S = some (e, S1) ∧ fn_Mo_print 514 a S1 = some (r, S2) ∧ Fin S2 e r := by
  obtain ⟨W, n, hs, hG, hH, hP⟩ := hI
  have h := hP.1.1
  have fb := frm_b h.v
  by_cases c : 0 ≤ a ∧ a < frm W
  · have e1' : g S 26 a.toNat = at_ W 15 a := h.pl.f1 c
    have hF : fn_FP_print 0 a S = (if at_ W 15 a = 1 then some (0, -4, S) else if latF W a ≤ 0 then (bnO (fn_History_keep 63 6 S) fun p4 => bnO (fn_Plan_leftOnForm 5 a (u p4 26 a.toNat 1)) fun p6 => some (0, p6, u p4 26 a.toNat 1)) else some (0, -4, S)) := by
      unfold fn_FP_print
      rw [F_needForm h, if_pos c, bnO_s, if_pos rfl, if_pos (by omega : 0 ≤ a ∧ a < 8)]
      simp only [tg_0_3, tg_0_4, tg_5_0, tg_6_3, tg_24_1, e1', P_lateOnForm h.pl c.1, bnO_s, nm_x]
    have hM : ∀ T, MV T W → fn_Mo_print 514 a T = (if at_ W 15 a = 1 then some (-4, u T 514 4 0) else if latF W a ≤ 0 then (bnO (fn_Mo_record 514 (u T 514 4 0)) fun p8 => bnO (fn_Mo_setForm 514 a 1 1 p8) fun p9 => bnO (fn_Mo_leftOnForm 514 a p9) fun p10 => some (p10, p9)) else some (-4, u T 514 4 0)) := by
      intro T hT
      have hM1 : MV (u T 514 4 0) W := hT.thr
      have eA : fn_Mo_isForm 514 a (u T 514 4 0) = some true := by rw [Mo_isForm hM1, decide_eq_true c]
      have e' : fn_Mo_ofForm 514 a 1 (u T 514 4 0) = some (at_ W 15 a) := Mo_ofForm hM1 (k := 1) (by omega) c
      unfold fn_Mo_print
      simp only [nm_x, eA, bnO_s, Mo_thr0, if_true, if_false, Bool.false_eq_true, e', Mo_lateOnForm hM1]
    have ref : fn_FP_print 0 a S = some (0, -4, S) → (∀ T, MV T W → fn_Mo_print 514 a T = some (-4, u T 514 4 0)) → ∃ e S1 r S2, fn_Law_print 0 a 524 S = some (e, S1) ∧ fn_Mo_print 514 a S1 = some (r, S2) ∧ Fin S2 e r := by
      intro h1 h2
      refine ⟨0, ul S 524 0 (-4), -4, _, ?_, h2 _ (hP.out (Off.wtl (by omega) (by omega))).1.2, fin0 hG hH hP (inRk rfl)⟩
      unfold fn_Law_print
      rw [h1]; rfl
    by_cases d : at_ W 15 a = 1
    · exact ref (by rw [hF, if_pos d]) (fun T hT => by rw [hM T hT, if_pos d])
    · by_cases d2 : latF W a ≤ 0
      · have hG' := Good_other hG (k := 15) (i := a) (z := 1) c.1 (.inr (.inr (.inr (.inl ⟨rfl, rfl⟩))))
        obtain ⟨S1, e1, c1⟩ := CR.keepG hP
        have vv : vC (u S1 26 a.toNat 1) 6 = up W 15 a.toNat 1 := K_vF (k := 15) (by decide) c1.2.1.pl.1.2.1 c (inRk rfl) (fun z => by omega)
        have c3 := c1.row (k := 15) (S2 := u S1 26 a.toNat 1) (by decide) vv ⟨hG'.1, hG'.2.1⟩ (Off.wt (by omega) (by omega))
        have m0 := rm_out (r := lefF (up W 15 a.toNat 1) a) hP c3
        obtain ⟨T1, f1, r1⟩ := (RM.begin m0.1 m0.2).record hP.2.1.1.1 hH
        obtain ⟨T2, f2, r2⟩ := r1.form (k := 15) (by decide) c (inRk rfl) hG'.1
        have f2' : fn_Mo_setForm 514 a 1 1 T1 = some T2 := f2
        refine ⟨0, ul (u S1 26 a.toNat 1) 524 0 (lefF (up W 15 a.toNat 1) a), lefF (up W 15 a.toNat 1) a, T2, ?_, ?_, fin2 hP hG' (hH.push hG) c3 (wr_in _) r2⟩
        · have : fn_FP_print 0 a S = some (0, lefF (up W 15 a.toNat 1) a, u S1 26 a.toNat 1) := by
            rw [hF, if_neg d, if_pos d2, e1, bnO_s, P_leftOnForm c3.2.1, bnO_s]
          unfold fn_Law_print
          rw [this]; rfl
        · rw [hM _ m0.1, if_neg d, if_pos d2, f1, bnO_s, f2', bnO_s, Mo_leftOnForm r2.2.2.1, bnO_s]
      · exact ref (by rw [hF, if_neg d, if_neg d2]) (fun T hT => by rw [hM T hT, if_neg d, if_neg d2])
  · refine ⟨1, S, 0, u (u S 514 4 0) 514 4 1, ?_, ?_, fin1 hG hH hP (.inl rfl)⟩
    · unfold fn_Law_print fn_FP_print
      rw [F_needForm h, if_neg c]; rfl
    · have hM1 : MV (u S 514 4 0) W := hP.1.2.thr
      have eA : fn_Mo_isForm 514 a (u S 514 4 0) = some false := by rw [Mo_isForm hM1, decide_eq_false c]
      unfold fn_Mo_print
      simp only [nm_x, eA, bnO_s, Mo_thr1, if_true, if_false, Bool.false_eq_true]
end Rows
