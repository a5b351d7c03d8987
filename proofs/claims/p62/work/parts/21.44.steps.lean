/-! STEPS OF BOTH SIDES -/
section Steps
variable {S S' T T' : St} {W : Vw} {n : Int} {hs : Int → Vw} {p k i : Nat} {z : Int}
theorem PL.upd (h : PL S p W) (hk : k < 17) (hv : vC S' (p + 1) = up W k i z) (hV' : Val (up W k i z)) (ho : Off S S' (p + 2) (p + 23)) : PL S' p (up W k i z) := by
  refine ⟨⟨h.q, hv, hV'⟩, ⟨?_, ?_⟩, fun q h1 h2 => ?_⟩
  · rw [ho.rd (by omega), pgs_up hk]; exact h.gp
  · rw [ho.rd (by omega)]; unfold frm; rw [sg_up hk]; exact h.gf
  · rw [pgs_up hk] at h2
    rw [fOf_up hk, pe_up hk, ho.rd (by omega), ho.rd (by omega)]
    exact ⟨h.fo h1 h2, h.sO h1 h2⟩
theorem lf_up (hk : k = 2 ∨ k = 3 ∨ k = 4 ∨ k = 14 ∨ k = 15 ∨ k = 16) (q : Int) : lf (up W k i z) q = lf W q := by
  unfold lf lefO room sumA sumB szA szB
  rw [stOn_up (by omega) (by omega) (by omega), nA_up (by omega), nB_up (by omega)]
  simp only [at_upn (W := W) (k := k) (i := i) (z := z) (k' := 6) (by omega), at_upn (W := W) (k := k) (i := i) (z := z) (k' := 0) (by omega), at_upn (W := W) (k := k) (i := i) (z := z) (k' := 13) (by omega), at_upn (W := W) (k := k) (i := i) (z := z) (k' := 12) (by omega)]
theorem grp_up (hk : k = 2 ∨ k = 3 ∨ k = 4 ∨ k = 14 ∨ k = 15 ∨ k = 16) (y s : Int) : grp (up W k i z) y s = grp W y s := by
  unfold grp sumA
  rw [nA_up (by omega)]
  simp only [at_upn (W := W) (k := k) (i := i) (z := z) (k' := 6) (by omega), at_upn (W := W) (k := k) (i := i) (z := z) (k' := 1) (by omega)]
theorem PT.upd (h : PT S p W) (hk : k = 2 ∨ k = 3 ∨ k = 4 ∨ k = 14 ∨ k = 15 ∨ k = 16) (hv : vC S' (p + 1) = up W k i z) (hG : Val (up W k i z) ∧ Wf (up W k i z)) (ho : Off S S' (p + 2) (p + 23)) : PT S' p (up W k i z) := by
  refine ⟨h.1.upd (by omega) hv hG.1 ho, ⟨fun q q1 q2 => ?_, fun y s y1 y2 s1 s2 => ?_⟩, hG.2⟩
  · rw [pgs_up (by omega)] at q2
    rw [lf_up hk, stOn_up (by omega) (by omega) (by omega), ho.rd (by omega), ho.rd (by omega)]
    exact ⟨h.l q1 q2, h.s q1 q2⟩
  · rw [grp_up hk, ho.rd (by omega)]
    exact h.gr ⟨y1, y2⟩ ⟨s1, s2⟩
/-! the class's rows: the plan is cell 5 -/
theorem K_vA (hk : k < 7) (h : vC S 6 = W) {a : Int} (ha : 0 ≤ a ∧ a < nA W) (hz : inR z) : vC (u S (8 + k) a.toNat z) 6 = up W k a.toNat z := by
  have q := vC_uA (S := S) (s := 6) (z := z) hk (a := a.toNat) (by have := ha.2; rw [← h] at this; have e : nA (vC S 6) = g S 7 7 := rfl; rw [e] at this; show (a.toNat : Int) < g S 7 7; omega)
  rw [h, wr_id hz] at q
  exact q
theorem K_vS (hk : 7 ≤ k ∧ k < 12) (h : vC S 6 = W) {a : Int} (ha : 0 ≤ a ∧ a < nS W) (hz : inR z) : vC (u S (9 + k) a.toNat z) 6 = up W k a.toNat z := by
  have q := vC_uS (S := S) (s := 6) (z := z) hk (a := a.toNat) (by have := ha.2; rw [← h] at this; have e : nS (vC S 6) = g S 15 5 := rfl; rw [e] at this; show (a.toNat : Int) < g S 15 5; omega)
  rw [h, wr_id hz] at q
  exact q
theorem K_vB (hk : 12 ≤ k ∧ k < 14) (h : vC S 6 = W) {a : Int} (ha : 0 ≤ a ∧ a < nB W) (hz : inR z) : vC (u S (10 + k) a.toNat z) 6 = up W k a.toNat z := by
  have q := vC_uB (S := S) (s := 6) (z := z) hk (a := a.toNat) (by have := ha.2; rw [← h] at this; have e : nB (vC S 6) = g S 21 2 := rfl; rw [e] at this; show (a.toNat : Int) < g S 21 2; omega)
  rw [h, wr_id hz] at q
  exact q
theorem K_vF (hk : 14 ≤ k ∧ k < 17) (h : vC S 6 = W) {a : Int} (ha : 0 ≤ a ∧ a < frm W) (hz : inR z) (h0 : k = 16 → 1 ≤ z) : vC (u S (11 + k) a.toNat z) 6 = up W k a.toNat z := by
  have q := vC_uF (S := S) (s := 6) (z := z) hk (a := a.toNat) (by have := ha.2; rw [← h] at this; have e : frm (vC S 6) = 2 * g S 6 4 := rfl; rw [e] at this; show (a.toNat : Int) < 2 * g S 6 4; omega)
  rw [h, wr_id hz] at q
  by_cases c : k = 16
  · rw [if_pos c] at q
    have h1 := h0 c
    unfold cl6 at q
    rw [if_neg (by omega), if_neg (by omega)] at q
    exact q
  · rw [if_neg c] at q
    exact q
theorem cl_keep (hP : Parts S W n hs) : ∃ S1, fn_History_keep 63 6 S = some S1 ∧ Off S S1 63 505 ∧ PT S1 5 W ∧ HCl S1 (hpn n) (hph n hs W) := by
  obtain ⟨S1, e1, o1, h1⟩ := H_keep hP.2.1.1 hP.1.1.1.1.2.1 hP.1.1.v
  exact ⟨S1, e1, o1, hP.1.1.off o1 (by omega), h1⟩
/-- what the class leaves behind: a new plan, one state more -/
def CR (S S1 : St) (W' : Vw) (n' : Int) (hs' : Int → Vw) : Prop := OC S S1 ∧ PT S1 5 W' ∧ HCl S1 n' hs'
theorem CR.keepG (hP : Parts S W n hs) : ∃ S1, fn_History_keep 63 6 S = some S1 ∧ CR S S1 W (hpn n) (hph n hs W) := by
  obtain ⟨S1, e1, o1, p1, h1⟩ := cl_keep hP
  exact ⟨S1, e1, o1.oc (by omega), p1, h1⟩
theorem CR.mk0 (hP : Parts S W n hs) : CR S S W n hs := ⟨OC.refl, hP.1.1, hP.2.1.1⟩
/-- a row changed on which no table rests -/
theorem CR.row {S1 S2 : St} {n' : Int} {hs' : Int → Vw} (h : CR S S1 W n' hs') (hk : k = 2 ∨ k = 3 ∨ k = 4 ∨ k = 14 ∨ k = 15 ∨ k = 16) (hv : vC S2 6 = up W k i z) (hG : Val (up W k i z) ∧ Wf (up W k i z)) (ho : Off S1 S2 7 28) : CR S S2 (up W k i z) n' hs' :=
  ⟨h.1.trans (ho.oc (by omega)), h.2.1.upd hk hv hG ho, h.2.2.off ho (by omega)⟩
/-- a row changed, the tables made anew -/
theorem CR.page {S1 S2 : St} {n' : Int} {hs' : Int → Vw} (h : CR S S1 W n' hs') (hk : k < 17) (hv : vC S2 6 = up W k i z) (hG : Val (up W k i z) ∧ Wf (up W k i z)) (ho : Off S1 S2 7 28) : ∃ S3, fn_Plan_recount 5 S2 = some S3 ∧ CR S S3 (up W k i z) n' hs' := by
  obtain ⟨S3, e3, o3, p3⟩ := P_recount (h.2.1.pl.upd hk hv hG.1 ho) hG.2
  exact ⟨S3, e3, (h.1.trans (ho.oc (by omega))).trans (o3.oc (by omega)), p3, (h.2.2.off ho (by omega)).off o3 (by omega)⟩
/-! the reference -/
theorem MV.o5 (h : MV S W) (o : Off S S' 524 526) : MV S' W := by
  have hg : ∀ a f, a < 524 → g S' a f = g S a f := fun a f ha => o.rd (by omega)
  refine ⟨?_, h.2⟩
  rw [← h.1]
  exact vM_eqv (by rw [h.1]; exact h.2) (hg _ _ (by omega)) (hg _ _ (by omega)) (fun x _ => hg _ _ (by omega))
def RM (T T' : St) (W' : Vw) (n' : Int) (hs' : Int → Vw) : Prop := OM T T' ∧ g T' 514 4 = 0 ∧ MV T' W' ∧ HMo T' n' hs'
theorem RM.begin (hM : MV T W) (hH : HMo T n hs) : RM T (u T 514 4 0) W n hs := ⟨OM.thr, by rw [g_eq]; exact wr_s (by decide) (by decide), hM.thr, hH.thr⟩
theorem RM.record (h : RM T T' W n hs) (hn : 0 ≤ n ∧ n ≤ 20) (hg : HGd n hs) : ∃ T'', fn_Mo_record 514 T' = some T'' ∧ RM T T'' W (hpn n) (hph n hs W) := by
  obtain ⟨T'', e, o, hf, hM, hH⟩ := M_record hn h.2.2.2 hg h.2.2.1
  exact ⟨T'', e, h.1.trans ⟨o.mono (by omega) (by omega), fun f h1 _ => hf f h1⟩, by rw [hf 4 (by omega)]; exact h.2.1, hM, hH⟩
theorem RM.put (h : RM T T' W n hs) {f : Nat} (hf : f < 380) (hv : vM (u T' 515 f z) 0 = up W k i z) (hV : Val (up W k i z)) : RM T (u T' 515 f z) (up W k i z) n hs :=
  ⟨h.1.trans (OM.wt (by omega) (by omega)), by rw [g_ne (by omega)]; exact h.2.1, ⟨hv, hV⟩, h.2.2.2.low (g_ne (by omega)) (g_ne (by omega)) (g_ne (by omega)) (fun f' hf' => g_ne (by omega))⟩
theorem RM.ad (h : RM T T' W n hs) (hk : k < 7) {a : Int} (ha : 0 ≤ a ∧ a < nA W) (hz : inR z) (hV : Val (up W k a.toNat z)) : ∃ T'', fn_Mo_setOfAd 514 a (k : Int) z T' = some T'' ∧ RM T T'' (up W k a.toNat z) n hs := by
  have b := h.2.2.1.b
  refine ⟨u T' 515 (29 + 7 * a + (k : Int)).toNat z, ?_, h.put (by omega) ?_ hV⟩
  · unfold fn_Mo_setOfAd
    rw [if_pos (by omega), tg_514_0]; rfl
  · have q := vM_uA (S := T') (z := z) h.2.2.1.mb (k := k) (a := a.toNat) hk (by rw [h.2.2.1.mA]; omega)
    rw [h.2.2.1.1, wr_id hz] at q
    rw [show (29 + 7 * a + (k : Int)).toNat = 29 + 7 * a.toNat + k by omega]
    exact q
theorem RM.story (h : RM T T' W n hs) (hk : 7 ≤ k ∧ k < 12) {a : Int} (ha : 0 ≤ a ∧ a < nS W) (hz : inR z) (hV : Val (up W k a.toNat z)) : RM T (u T' 515 (309 + 5 * a + ((k : Int) - 7)).toNat z) (up W k a.toNat z) n hs := by
  have b := h.2.2.1.b
  refine h.put (by omega) ?_ hV
  have q := vM_uS (S := T') (z := z) h.2.2.1.mb (k := k) (a := a.toNat) hk (by rw [h.2.2.1.mS]; omega)
  rw [h.2.2.1.1, wr_id hz] at q
  rw [show (309 + 5 * a + ((k : Int) - 7)).toNat = 309 + 5 * a.toNat + (k - 7) by omega]
  exact q
theorem RM.stb (h : RM T T' W n hs) {a : Int} (ha : 0 ≤ a ∧ a < nB W) (hz : inR z) (hV : Val (up W 13 a.toNat z)) : ∃ T'', fn_Mo_setStandby 514 a z T' = some T'' ∧ RM T T'' (up W 13 a.toNat z) n hs := by
  have b := h.2.2.1.b
  refine ⟨u T' 515 (359 + 2 * a + 1).toNat z, ?_, h.put (by omega) ?_ hV⟩
  · unfold fn_Mo_setStandby
    rw [if_pos (by omega), tg_514_0]; rfl
  · have q := vM_uB (S := T') (z := z) h.2.2.1.mb (k := 13) (a := a.toNat) (by decide) (by rw [h.2.2.1.mB]; omega)
    rw [h.2.2.1.1, wr_id hz] at q
    rw [show (359 + 2 * a + 1).toNat = 359 + 2 * a.toNat + (13 - 12) by omega]
    exact q
theorem RM.form (h : RM T T' W n hs) (hk : 14 ≤ k ∧ k < 17) {a : Int} (ha : 0 ≤ a ∧ a < frm W) (hz : inR z) (hV : Val (up W k a.toNat z)) : ∃ T'', fn_Mo_setForm 514 a ((k : Int) - 14) z T' = some T'' ∧ RM T T'' (up W k a.toNat z) n hs := by
  have b := h.2.2.1.b
  have e8 : frm W = 2 * sg W := rfl
  refine ⟨u T' 515 (5 + 3 * a + ((k : Int) - 14)).toNat z, ?_, h.put (by omega) ?_ hV⟩
  · unfold fn_Mo_setForm
    rw [if_pos (by omega), tg_514_0]; rfl
  · have q := vM_uF (S := T') (z := z) h.2.2.1.mb (k := k) (a := a.toNat) hk (by rw [h.2.2.1.msg]; omega)
    rw [h.2.2.1.1, wr_id hz] at q
    rw [show (5 + 3 * a + ((k : Int) - 14)).toNat = 5 + 3 * a.toNat + (k - 14) by omega]
    exact q
/-- the end of a call that changed the plan -/
theorem fin2 {S1 : St} {W' : Vw} {n' : Int} {hs' : Int → Vw} {r : Int} (hP : Parts S W n hs) (hG : Good W') (hH : HGd n' hs') (hC : CR S S1 W' n' hs') (hr : inR r) (hR : RM (ul S1 524 0 r) T' W' n' hs') : Fin T' 0 r := by
  refine ⟨hR.2.1, fun _ => ?_, Inv.step hP hG hH hC.1 hC.2.1 hC.2.2 (Off.wtl (by omega) (by omega)) hR.1 hR.2.2.1 hR.2.2.2⟩
  rw [hR.1.1.rl (by omega), gl_w, if_pos ⟨rfl, rfl⟩]
  exact wl_id (inR_L hr)
theorem rm_out {S1 : St} {W' : Vw} {n' : Int} {hs' : Int → Vw} {r : Int} (hP : Parts S W n hs) (hC : CR S S1 W' n' hs') : MV (ul S1 524 0 r) W ∧ HMo (ul S1 524 0 r) n hs := by
  have o : Off S1 (ul S1 524 0 r) 524 526 := Off.wtl (by omega) (by omega)
  exact ⟨(hC.1.mv hP.1.2).o5 o, (hC.1.mo hP.2.1.2).off o (by omega)⟩
theorem bi_in' {b : Bool} : inR (bi b) := bi_in b
end Steps
section Puts
variable {S : St}
theorem ok_put (hI : Inv S) {a p : Int} (hi_a : inR a) (hi_p : inR p) : ∃ e S1 r S2, fn_Law_put 0 a p 524 S = some (e, S1) ∧ fn_Mo_put 514 a p S1 = some (r, S2) ∧ Fin S2 e r := by
  obtain ⟨W, n, hs, hG, hH, hP⟩ := hI
  have h := hP.1.1
  have b := h.pl.b
  by_cases c : 0 ≤ a ∧ a < nA W
  · have v := h.v.2.1 a c.1 c.2
    -- refused with r
    have ref : ∀ r, (r = 1 → reas W a p = 1) → r ≠ 0 → inR r → fn_FP_put 0 a p S = some (0, r, S) → (∀ T, MV T W → fn_Mo_put 514 a p T = some (r, u T 514 4 0)) → ∃ e S1 r S2, fn_Law_put 0 a p 524 S = some (e, S1) ∧ fn_Mo_put 514 a p S1 = some (r, S2) ∧ Fin S2 e r := by
      intro r _ _ hr h1 h2
      refine ⟨0, ul S 524 0 r, r, _, ?_, h2 _ (hP.out (Off.wtl (by omega) (by omega))).1.2, fin0 hG hH hP hr⟩
      unfold fn_Law_put
      rw [h1]; rfl
    have e6 : g S 14 a.toNat = at_ W 6 a := h.pl.a6 c
    have hF : fn_FP_put 0 a p S = (if reas W a p = 1 then jf_FP_put_47 0 a p 1 S else if isP W (at_ W 6 a) = true ∧ prP W (at_ W 6 a) = true then jf_FP_put_47 0 a p 2 S else jf_FP_put_47 0 a p (reas W a p) S) := by
      unfold fn_FP_put
      rw [F_needAd h, if_pos c, bnO_s, if_pos rfl, tg_0_3, P_adReason h c, bnO_s]
      by_cases d : reas W a p = 1
      · rw [if_pos d, if_pos d, d]
      · rw [if_neg d, if_neg d, if_pos (by omega)]
        simp only [tg_5_0, tg_6_0, tg_7_6, e6, P_isPrinted h.pl, bnO_s, Bool.and_eq_true]
    have hM : ∀ T, MV T W → fn_Mo_put 514 a p T = (if reas W a p = 1 then some (1, u T 514 4 0) else if isP W (at_ W 6 a) = true ∧ prP W (at_ W 6 a) = true then some (2, u T 514 4 0) else if reas W a p ≤ 0 then (bnO (fn_Mo_record 514 (u T 514 4 0)) fun p11 => bnO (fn_Mo_setOfAd 514 a 6 p p11) fun p12 => some (0, p12)) else some (reas W a p, u T 514 4 0)) := by
      intro T hT
      have hM1 : MV (u T 514 4 0) W := hT.thr
      have eA : fn_Mo_isAd 514 a (u T 514 4 0) = some true := by rw [Mo_isAd hM1, decide_eq_true c]
      have e6' : fn_Mo_ofAd 514 a 6 (u T 514 4 0) = some (at_ W 6 a) := Mo_ofAd hM1 (k := 6) (by omega) c
      unfold fn_Mo_put jf_Mo_put_19
      simp only [nm_x, eA, bnO_s, Mo_thr0, if_true, if_false, Bool.false_eq_true, Mo_reasonOf hM1 c, e6']
      by_cases d : reas W a p = 1
      · rw [if_pos d, if_pos d, if_neg (by omega), d]
      · rw [if_neg d, if_neg d]
        by_cases d2 : at_ W 6 a ≤ 0
        · rw [if_pos d2, if_neg ((fun z => by have := isP_b z.1; omega) : ¬ (isP W (at_ W 6 a) = true ∧ prP W (at_ W 6 a) = true))]
        · have ip : isP W (at_ W 6 a) = true := decide_eq_true (by omega)
          rw [if_neg d2, Mo_isPrinted hM1 (by omega), bnO_s, ip]
          simp only [true_and]
    by_cases d : reas W a p = 1
    · refine ref 1 (fun _ => d) (by decide) (inRk rfl) ?_ (fun T hT => ?_)
      · rw [hF, if_pos d]; rfl
      · rw [hM T hT, if_pos d]
    · by_cases d2 : isP W (at_ W 6 a) = true ∧ prP W (at_ W 6 a) = true
      · refine ref 2 (fun z => by omega) (by decide) (inRk rfl) ?_ (fun T hT => ?_)
        · rw [hF, if_neg d, if_pos d2]; rfl
        · rw [hM T hT, if_neg d, if_pos d2]
      · have rb : 0 ≤ reas W a p ∧ reas W a p ≤ 6 := by unfold reas; repeat' split; all_goals omega
        by_cases d3 : reas W a p = 0
        · have hG' := Good_put hG c d3
          have q0 := reas0 hG.1 c d3
          obtain ⟨S1, e1, c1⟩ := CR.keepG hP
          have vv : vC (u S1 14 a.toNat p) 6 = up W 6 a.toNat p := K_vA (k := 6) (by decide) c1.2.1.pl.1.2.1 c hi_p
          obtain ⟨S3, e3, c3⟩ := c1.page (k := 6) (S2 := u S1 14 a.toNat p) (by decide) vv ⟨hG'.1, hG'.2.1⟩ (Off.wt (by omega) (by omega))
          have m0 := rm_out (r := 0) hP c3
          obtain ⟨T1, f1, r1⟩ := (RM.begin m0.1 m0.2).record hP.2.1.1.1 hH
          obtain ⟨T2, f2, r2⟩ := r1.ad (k := 6) (by decide) c hi_p hG'.1
          have f2' : fn_Mo_setOfAd 514 a 6 p T1 = some T2 := f2
          refine ⟨0, ul S3 524 0 0, 0, T2, ?_, ?_, fin2 hP hG' (hH.push hG) c3 (inRk rfl) r2⟩
          · have : fn_FP_put 0 a p S = some (0, 0, S3) := by
              rw [hF, if_neg d, if_neg d2, d3]
              unfold jf_FP_put_47
              simp only [tg_0_4, tg_0_3, tg_5_0, tg_6_0, tg_7_6, e1, bnO_s, nm_x]
              rw [if_pos trivial, if_pos (by omega : 0 ≤ a ∧ a < 40), e3, bnO_s]
            unfold fn_Law_put
            rw [this]; rfl
          · rw [hM _ m0.1, if_neg d, if_neg d2, if_pos (by omega), f1, bnO_s, f2', bnO_s]
        · refine ref (reas W a p) (fun z => z) d3 ⟨by omega, by omega⟩ ?_ (fun T hT => ?_)
          · rw [hF, if_neg d, if_neg d2]
            unfold jf_FP_put_47
            rw [if_neg d3]
          · rw [hM T hT, if_neg d, if_neg d2, if_neg (by omega)]
  · refine ⟨1, S, 0, u (u S 514 4 0) 514 4 1, ?_, ?_, fin1 hG hH hP (.inl rfl)⟩
    · unfold fn_Law_put fn_FP_put
      rw [F_needAd h, if_neg c]; rfl
    · have hM1 : MV (u S 514 4 0) W := hP.1.2.thr
      have eA : fn_Mo_isAd 514 a (u S 514 4 0) = some false := by rw [Mo_isAd hM1, decide_eq_false c]
      unfold fn_Mo_put jf_Mo_put_19
      simp only [nm_x, eA, bnO_s, Mo_thr1, if_true, if_false, Bool.false_eq_true]
end Puts
