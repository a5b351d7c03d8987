/-! closing of forms: setClosing -/
section Close6
variable {W V V' : Vw} {S T0 T : St} {a f p i z s y n c0 c : Int} {hs : Int → Vw}
theorem hr_one (hV : Val V) (ha : 0 ≤ a ∧ a < frm V) (h5 : at_ V 15 a = 0) (h6 : at_ V 16 a = z) (ho : ∀ f, 0 ≤ f → f < frm V → f ≠ a → at_ V 15 f = 0 → at_ V 16 f ≠ z) : itR (hrS z) 0 (frm V).toNat (0, V) = (1, clW a V) := by
  have e1 : itR (hrS z) 0 a.toNat (0, V) = (0, V) := itR_fix (fun j j1 j2 => by
    unfold hrS
    rw [if_neg (fun w => ho j j1 (by omega) (by omega) w.1 w.2)])
  have e2 : itR (hrS z) (a + 1) (frm V - (a + 1)).toNat (1, clW a V) = (1, clW a V) := itR_fix (fun j j1 j2 => by
    unfold hrS
    rw [if_neg (fun w => ?_)]
    have w1 : at_ (clW a V) 15 j = 0 := w.1
    have w2 : at_ (clW a V) 16 j = z := w.2
    rw [clW_15 ha.1 (by omega), if_neg (by omega)] at w1
    rw [clW_at (by decide) (by decide) (by decide) (by decide) (by decide)] at w2
    exact ho j (by omega) (by omega) (by omega) w1 w2)
  have e3 : hrS z a (0, V) = (1, clW a V) := by
    unfold hrS
    rw [if_pos ⟨h5, h6⟩]
    rfl
  rw [show (frm V).toNat = a.toNat + ((frm V - (a + 1)).toNat + 1) by omega, itR_add, e1, show (0 : Int) + (a.toNat : Int) = a by omega]
  show itR (hrS z) (a + 1) _ (hrS z a (0, V)) = _
  rw [e3, e2]
theorem G3_closing (hG : Good W) (ha : 0 ≤ a ∧ a < frm W) (hz : 1 ≤ z ∧ z ≤ 9999) : G3 (up W 16 a.toNat z) := hG.g3.step (by decide) (fun h => Good_other h ha.1 (.inr (.inr (.inr (.inr ⟨rfl, hz, by rw [tm_tm]; omega⟩)))))
theorem ok_setClosing (hI : Inv S) {a z : Int} (hi_a : inR a) (hi_z : inR z) : ∃ e S1 r S2, fn_Law_setClosing 0 a z 524 S = some (e, S1) ∧ fn_Mo_setClosing 514 a z S1 = some (r, S2) ∧ Fin S2 e r := by
  obtain ⟨W, n, hs, hG, hH, hP⟩ := hI
  have h := hP.1.1
  have fb := frm_b h.v
  by_cases c : 0 ≤ a ∧ a < frm W
  · have v := h.v.2.2.2.2 a c.1 c.2
    have e1p : g S 26 a.toNat = at_ W 15 a := h.pl.f1 c
    by_cases d : 1 ≤ z ∧ z ≤ 9999
    · by_cases k : at_ W 15 a = 1
      · have hM1 : MV (u (ul S 524 0 (-4)) 514 4 0) W := ((rm_out (r := -4) hP (CR.mk0 hP)).1).thr
        refine ⟨0, ul S 524 0 (-4), -4, u (ul S 524 0 (-4)) 514 4 0, ?_, ?_, fin0 hG hH hP ⟨by decide, by decide⟩⟩
        · have : fn_FP_setClosing 0 a z S = some (0, -4, S) := by
            unfold fn_FP_setClosing
            rw [F_needForm h, if_pos c, bnO_s, if_pos rfl, if_neg (by omega), if_pos d.2, if_pos (by omega : 0 ≤ a ∧ a < 8), tg_0_3, tg_5_0, tg_6_3, tg_24_1, e1p, if_pos k]
          unfold fn_Law_setClosing
          rw [this]; rfl
        · have e2 : fn_Mo_ofForm 514 a 1 (u (ul S 524 0 (-4)) 514 4 0) = some (at_ W 15 a) := Mo_ofForm hM1 (k := 1) (by omega) c
          unfold fn_Mo_setClosing jf_Mo_setClosing_19
          simp only [nm_x, Mo_isForm hM1, decide_eq_true c, bnO_s, Mo_thr0, if_true, if_false, Bool.false_eq_true, Mo_inRange, decide_eq_true d, e2]
          rw [if_pos k]
      · have k0 : at_ W 15 a = 0 := by have := v.2.1; omega
        have hg1 := G3_closing hG c d
        obtain ⟨S1, e1, c1⟩ := CR.keepG hP
        have vv : vC (u S1 27 a.toNat z) 6 = up W 16 a.toNat z := K_vF (k := 16) (by decide) c1.2.1.pl.1.2.1 c hi_z (fun _ => d.1)
        have c2 := c1.row (k := 16) (S2 := u S1 27 a.toNat z) (by decide) vv ⟨hg1.1, hg1.2.1⟩ (Off.wt (by omega) (by omega))
        have eo : fn_FP_orNone (g S1 27 a.toNat) = fun S => some (at_ W 16 a) := by
          funext S'
          rw [F_orNone]
          exact congrArg some (c1.2.1.pl.cl c)
        have f1 : frm (up W 16 a.toNat z) = frm W := by unfold frm; rw [sg_up (by decide)]
        have t1 : tm (up W 16 a.toNat z) = tm W := tm_up (by decide)
        have a16 : ∀ x, 0 ≤ x → at_ (up W 16 a.toNat z) 16 x = if x = a then z else at_ W 16 x := fun x hx => at_upe hx c.1
        have a15 : ∀ x, at_ (up W 16 a.toNat z) 15 x = at_ W 15 x := fun x => at_upn (by decide)
        by_cases dt : tm W < z
        · have hG' : Good (up W 16 a.toNat z) := Good_other hG c.1 (.inr (.inr (.inr (.inr ⟨rfl, d, dt⟩))))
          have nd := P_notDue c2.2.1 (fun f f1 f2 f3 => hG'.2.2.2 f f1 f2 f3)
          have m0 := rm_out (r := at_ W 16 a) hP c2
          have hM1 : MV (u (ul (u S1 27 a.toNat z) 524 0 (at_ W 16 a)) 514 4 0) W := m0.1.thr
          obtain ⟨T1, g1, r1⟩ := (RM.begin m0.1 m0.2).record hP.2.1.1.1 hH
          obtain ⟨T2, g2, r2⟩ := r1.form (k := 16) (by decide) c hi_z hG'.1
          have g2' : fn_Mo_setForm 514 a 2 z T1 = some T2 := g2
          refine ⟨0, ul (u S1 27 a.toNat z) 524 0 (at_ W 16 a), at_ W 16 a, T2, ?_, ?_, fin2 hP hG' (hH.push hG) c2 ⟨by omega, by omega⟩ r2⟩
          · have : fn_FP_setClosing 0 a z S = some (0, at_ W 16 a, u S1 27 a.toNat z) := by
              unfold fn_FP_setClosing
              rw [F_needForm h, if_pos c, bnO_s, if_pos rfl, if_neg (by omega), if_pos d.2, if_pos (by omega : 0 ≤ a ∧ a < 8), tg_0_3, tg_5_0, tg_6_3, tg_24_1, e1p, if_neg k, tg_0_4, e1, bnO_s, nm_x, tg_24_2, nd, bnO_s, eo, bnO_s]
            unfold fn_Law_setClosing
            rw [this]; rfl
          · have e2 : fn_Mo_ofForm 514 a 1 (u (ul (u S1 27 a.toNat z) 524 0 (at_ W 16 a)) 514 4 0) = some (at_ W 15 a) := Mo_ofForm hM1 (k := 1) (by omega) c
            have e3 : fn_Mo_ofForm 514 a 2 (u (ul (u S1 27 a.toNat z) 524 0 (at_ W 16 a)) 514 4 0) = some (at_ W 16 a) := Mo_ofForm hM1 (k := 2) (by omega) c
            have t2 : g T2 515 0 = tm W := by rw [r2.2.2.1.mtm, t1]
            unfold fn_Mo_setClosing jf_Mo_setClosing_19
            simp only [nm_x, Mo_isForm hM1, decide_eq_true c, bnO_s, Mo_thr0, if_true, if_false, Bool.false_eq_true, Mo_inRange, decide_eq_true d, e2, if_neg k, e3, g1, g2', tg_514_0, t2]
            rw [if_pos dt]
        · obtain ⟨S3, e3, o3, t3⟩ := P_due (c0 := z) c2.2.1 hg1 d.1 (by rw [t1]; omega) (fun f q1 q2 q3 => by
            rw [a15] at q3
            rw [f1] at q2
            rw [a16 f q1, t1]
            by_cases w : f = a
            · rw [if_pos w]; exact .inr (.inl rfl)
            · rw [if_neg w]
              have := hG.2.2.2 f q1 q2 q3
              omega)
          rw [hr_one (a := a) hg1.1 (by rw [f1]; exact c) (by rw [a15]; exact k0) (by rw [a16 a c.1, if_pos rfl]) (fun f q1 q2 q4 q3 => by
            rw [a15] at q3
            rw [f1] at q2
            rw [a16 f q1, if_neg q4]
            have := hG.2.2.2 f q1 q2 q3
            omega)] at e3 t3
          have hgc : G3 (clW a (up W 16 a.toNat z)) := G3_clW hg1 (by rw [f1]; exact c)
          have hG' : Good (clW a (up W 16 a.toNat z)) := ⟨hgc.1, hgc.2.1, hgc.2.2, fun f q1 q2 q3 => by
            rw [frm_clW, f1] at q2
            rw [clW_15 c.1 q1] at q3
            have nf : f ≠ a := fun w => by rw [if_pos w] at q3; omega
            rw [if_neg nf, a15] at q3
            rw [clW_at (by decide) (by decide) (by decide) (by decide) (by decide), clW_n.2, t1, a16 f q1, if_neg nf]
            exact hG.2.2.2 f q1 q2 q3⟩
          have c3 := CR_off c2 o3 t3
          have m0 := rm_out (r := at_ W 16 a) hP c3
          have hM1 : MV (u (ul S3 524 0 (at_ W 16 a)) 514 4 0) W := m0.1.thr
          obtain ⟨T1, g1, r1⟩ := (RM.begin m0.1 m0.2).record hP.2.1.1.1 hH
          obtain ⟨T2, g2, r2⟩ := r1.form (k := 16) (by decide) c hi_z hg1.1
          have g2' : fn_Mo_setForm 514 a 2 z T1 = some T2 := g2
          obtain ⟨T3, g3, r3⟩ := M_close r2 hg1 (f := a) (by rw [f1]; exact c)
          refine ⟨0, ul S3 524 0 (at_ W 16 a), at_ W 16 a, T3, ?_, ?_, fin2 hP hG' (hH.push hG) c3 ⟨by omega, by omega⟩ r3⟩
          · have : fn_FP_setClosing 0 a z S = some (0, at_ W 16 a, S3) := by
              unfold fn_FP_setClosing
              rw [F_needForm h, if_pos c, bnO_s, if_pos rfl, if_neg (by omega), if_pos d.2, if_pos (by omega : 0 ≤ a ∧ a < 8), tg_0_3, tg_5_0, tg_6_3, tg_24_1, e1p, if_neg k, tg_0_4, e1, bnO_s, nm_x, tg_24_2, e3, bnO_s, eo, bnO_s]
            unfold fn_Law_setClosing
            rw [this]; rfl
          · have e2 : fn_Mo_ofForm 514 a 1 (u (ul S3 524 0 (at_ W 16 a)) 514 4 0) = some (at_ W 15 a) := Mo_ofForm hM1 (k := 1) (by omega) c
            have e3 : fn_Mo_ofForm 514 a 2 (u (ul S3 524 0 (at_ W 16 a)) 514 4 0) = some (at_ W 16 a) := Mo_ofForm hM1 (k := 2) (by omega) c
            have t2 : g T2 515 0 = tm W := by rw [r2.2.2.1.mtm, t1]
            unfold fn_Mo_setClosing jf_Mo_setClosing_19
            simp only [nm_x, Mo_isForm hM1, decide_eq_true c, bnO_s, Mo_thr0, if_true, if_false, Bool.false_eq_true, Mo_inRange, decide_eq_true d, e2, if_neg k, e3, g1, g2', tg_514_0, t2, if_neg dt, g3]
    · refine ⟨2, S, 0, u (u S 514 4 0) 514 4 2, ?_, ?_, fin1 hG hH hP (.inr rfl)⟩
      · have : fn_FP_setClosing 0 a z S = some (2, 0, S) := by
          unfold fn_FP_setClosing
          rw [F_needForm h, if_pos c, bnO_s, if_pos rfl]
          by_cases w : z < 1
          · rw [if_pos w]
          · rw [if_neg w, if_neg (by omega)]
        unfold fn_Law_setClosing
        rw [this]; rfl
      · have hM1 : MV (u S 514 4 0) W := hP.1.2.thr
        unfold fn_Mo_setClosing jf_Mo_setClosing_19
        simp only [nm_x, Mo_isForm hM1, decide_eq_true c, bnO_s, Mo_thr0, Mo_thr1, if_true, if_false, Bool.false_eq_true, Mo_inRange, decide_eq_false d]
  · refine ⟨1, S, 0, u (u S 514 4 0) 514 4 1, ?_, ?_, fin1 hG hH hP (.inl rfl)⟩
    · have : fn_FP_setClosing 0 a z S = some (1, 0, S) := by
        unfold fn_FP_setClosing
        rw [F_needForm h, if_neg c]; rfl
      unfold fn_Law_setClosing
      rw [this]; rfl
    · have hM1 : MV (u S 514 4 0) W := hP.1.2.thr
      unfold fn_Mo_setClosing jf_Mo_setClosing_19
      simp only [nm_x, Mo_isForm hM1, decide_eq_false c, bnO_s, Mo_thr1, if_true, if_false, Bool.false_eq_true]
end Close6
