/-! CHANGES: the class's side of each -/
section ChgC
variable {S : St} {W : Vw} {n : Int} {hs : Int → Vw} {a p : Int}
theorem CR.keep (h : PT S 5 W) (hc : HCl S n hs) : ∃ S1, fn_History_keep 63 6 S = some S1 ∧ CR S S1 W (hpn n) (hph n hs W) := by
  obtain ⟨S1, e, o, c⟩ := H_keep hc h.pl.1.2.1 h.v
  exact ⟨S1, e, o.oc (by omega), h.off o (by omega), c⟩
def putR (W : Vw) (a p : Int) : Int := if reas W a p = 1 then 1 else if isP W (at_ W 6 a) = true ∧ prP W (at_ W 6 a) = true then 2 else reas W a p
theorem putR_0 (h : putR W a p = 0) : reas W a p = 0 := by
  unfold putR at h
  split at h
  · omega
  · split at h
    · omega
    · exact h
theorem cl_put (h : PT S 5 W) (hG : Good W) (hc : HCl S n hs) (c : 0 ≤ a ∧ a < nA W) (hp : inR p) : (putR W a p ≠ 0 → fn_FP_put 0 a p S = some (0, putR W a p, S)) ∧ (putR W a p = 0 → Good (up W 6 a.toNat p) ∧ ∃ S', fn_FP_put 0 a p S = some (0, 0, S') ∧ CR S S' (up W 6 a.toNat p) (hpn n) (hph n hs W)) := by
  have b := h.pl.b
  have e6 : g S 14 a.toNat = at_ W 6 a := h.pl.a6 c
  have hF : fn_FP_put 0 a p S = jf_FP_put_47 0 a p (putR W a p) S := by
    unfold fn_FP_put putR
    rw [F_needAd h, if_pos c, bnO_s, if_pos rfl, tg_0_3, P_adReason h c, bnO_s]
    by_cases d : reas W a p = 1
    · rw [if_pos d, if_pos d, d]
    · rw [if_neg d, if_neg d, if_pos (by omega), tg_5_0, tg_6_0, tg_7_6, e6, P_isPrinted h.pl, bnO_s]
      by_cases e : isP W (at_ W 6 a) = true ∧ prP W (at_ W 6 a) = true
      · rw [if_pos e, if_pos (by rw [e.1, e.2]; rfl)]
      · rw [if_neg e, if_neg (by rw [Bool.and_eq_true]; exact e)]
  rw [hF]
  unfold jf_FP_put_47
  refine ⟨fun d => if_neg d, fun d => ?_⟩
  have d3 := putR_0 d
  have hG' := Good_put hG c d3
  obtain ⟨S1, e1, c1⟩ := CR.keep h hc
  have vv : vC (u S1 14 a.toNat p) 6 = up W 6 a.toNat p := K_vA (k := 6) (by decide) c1.2.1.pl.1.2.1 c hp
  obtain ⟨S3, e3, c3⟩ := c1.page (k := 6) (S2 := u S1 14 a.toNat p) (by decide) vv ⟨hG'.1, hG'.2.1⟩ (Off.wt (by omega) (by omega))
  refine ⟨hG', S3, ?_, c3⟩
  rw [if_pos d, tg_0_4, tg_0_3, tg_5_0, e1, bnO_s, if_pos (by omega), nm_x, tg_6_0, tg_7_6, e3, bnO_s, d]
theorem cl_take (h : PT S 5 W) (hG : Good W) (hc : HCl S n hs) (c : 0 ≤ a ∧ a < nA W) : ((at_ W 6 a = 0 ∨ prP W (at_ W 6 a) = true) → fn_FP_take 0 a S = some (0, false, S)) ∧ (¬ (at_ W 6 a = 0 ∨ prP W (at_ W 6 a) = true) → Good (up W 6 a.toNat 0) ∧ ∃ S', fn_FP_take 0 a S = some (0, true, S') ∧ CR S S' (up W 6 a.toNat 0) (hpn n) (hph n hs W)) := by
  have b := h.pl.b
  have v := h.v.2.1 a c.1 c.2
  have e6 : g S 14 a.toNat = at_ W 6 a := h.pl.a6 c
  unfold fn_FP_take
  rw [F_needAd h, if_pos c, bnO_s, if_pos rfl, if_pos (by omega : 0 ≤ a ∧ a < 40), tg_0_3, tg_0_4, tg_5_0, tg_6_0, tg_7_6, e6]
  by_cases d : at_ W 6 a = 0
  · rw [if_pos d]
    exact ⟨fun _ => rfl, fun q => absurd (.inl d) q⟩
  · rw [if_neg d, P_isPrinted1 h.pl (by omega) (by omega), bnO_s]
    by_cases d2 : prP W (at_ W 6 a) = true
    · rw [if_pos d2]
      exact ⟨fun _ => rfl, fun q => absurd (.inr d2) q⟩
    · rw [if_neg d2]
      refine ⟨fun q => absurd q (fun z => z.elim d d2), fun _ => ?_⟩
      have hG' := Good_take hG c
      obtain ⟨S1, e1, c1⟩ := CR.keep h hc
      have vv : vC (u S1 14 a.toNat 0) 6 = up W 6 a.toNat 0 := K_vA (k := 6) (by decide) c1.2.1.pl.1.2.1 c (inRk rfl)
      obtain ⟨S3, e3, c3⟩ := c1.page (k := 6) (S2 := u S1 14 a.toNat 0) (by decide) vv ⟨hG'.1, hG'.2.1⟩ (Off.wt (by omega) (by omega))
      refine ⟨hG', S3, ?_, c3⟩
      rw [e1, bnO_s, nm_x, e3, bnO_s]
def layQ (W : Vw) (a p : Int) : Int := if layR W a p = 1 then 1 else if stPr W a = true then 2 else layR W a p
theorem layQ_0 (h : layQ W a p = 0) : layR W a p = 0 := by
  unfold layQ at h
  split at h
  · omega
  · split at h
    · omega
    · exact h
theorem cl_lay (h : PT S 5 W) (hG : Good W) (hc : HCl S n hs) (c : 0 ≤ a ∧ a < nS W) (hp : inR p) : (layQ W a p ≠ 0 → fn_FP_lay 0 a p S = some (0, layQ W a p, S)) ∧ (layQ W a p = 0 → Good (up W 11 a.toNat p) ∧ ∃ S', fn_FP_lay 0 a p S = some (0, 0, S') ∧ CR S S' (up W 11 a.toNat p) (hpn n) (hph n hs W)) := by
  have b := h.pl.b
  have hF : fn_FP_lay 0 a p S = jf_FP_lay_33 0 a p (layQ W a p) S := by
    unfold fn_FP_lay layQ
    rw [F_needStory h, if_pos c, bnO_s, if_pos rfl, tg_0_3, P_layReason h c hp, bnO_s, P_storyIsPrinted h.pl c, bnO_s]
    by_cases d : layR W a p = 1
    · rw [if_pos d, if_pos d, d]
    · rw [if_neg d, if_neg d]
      by_cases e : stPr W a = true
      · rw [if_pos e, if_pos e]
      · rw [if_neg e, if_neg e]
  rw [hF]
  unfold jf_FP_lay_33
  refine ⟨fun d => if_neg d, fun d => ?_⟩
  have hG' := Good_setS hG c (.inr (layQ_0 d))
  obtain ⟨S1, e1, c1⟩ := CR.keep h hc
  have vv : vC (u S1 20 a.toNat p) 6 = up W 11 a.toNat p := K_vS (k := 11) (by decide) c1.2.1.pl.1.2.1 c hp
  obtain ⟨S3, e3, c3⟩ := c1.page (k := 11) (S2 := u S1 20 a.toNat p) (by decide) vv ⟨hG'.1, hG'.2.1⟩ (Off.wt (by omega) (by omega))
  refine ⟨hG', S3, ?_, c3⟩
  rw [if_pos d, tg_0_4, tg_0_3, tg_5_0, e1, bnO_s, if_pos (by omega : 0 ≤ a ∧ a < 10), nm_x, tg_6_1, tg_15_4, e3, bnO_s, d]
theorem cl_takeStory (h : PT S 5 W) (hG : Good W) (hc : HCl S n hs) (c : 0 ≤ a ∧ a < nS W) : ((at_ W 11 a = 0 ∨ stPr W a = true) → fn_FP_takeStory 0 a S = some (0, false, S)) ∧ (¬ (at_ W 11 a = 0 ∨ stPr W a = true) → Good (up W 11 a.toNat 0) ∧ ∃ S', fn_FP_takeStory 0 a S = some (0, true, S') ∧ CR S S' (up W 11 a.toNat 0) (hpn n) (hph n hs W)) := by
  have b := h.pl.b
  have e6 : g S 20 a.toNat = at_ W 11 a := h.pl.s4 c
  unfold fn_FP_takeStory
  rw [F_needStory h, if_pos c, bnO_s, if_pos rfl, if_pos (by omega : 0 ≤ a ∧ a < 10), tg_0_3, tg_0_4, tg_5_0, tg_6_1, tg_15_4, e6]
  by_cases d : at_ W 11 a = 0
  · rw [if_pos d]
    exact ⟨fun _ => rfl, fun q => absurd (.inl d) q⟩
  · rw [if_neg d, P_storyIsPrinted h.pl c, bnO_s]
    by_cases d2 : stPr W a = true
    · rw [if_pos d2]
      exact ⟨fun _ => rfl, fun q => absurd (.inr d2) q⟩
    · rw [if_neg d2]
      refine ⟨fun q => absurd q (fun z => z.elim d d2), fun _ => ?_⟩
      have hG' := Good_setS hG c (p := 0) (.inl rfl)
      obtain ⟨S1, e1, c1⟩ := CR.keep h hc
      have vv : vC (u S1 20 a.toNat 0) 6 = up W 11 a.toNat 0 := K_vS (k := 11) (by decide) c1.2.1.pl.1.2.1 c (inRk rfl)
      obtain ⟨S3, e3, c3⟩ := c1.page (k := 11) (S2 := u S1 20 a.toNat 0) (by decide) vv ⟨hG'.1, hG'.2.1⟩ (Off.wt (by omega) (by omega))
      refine ⟨hG', S3, ?_, c3⟩
      rw [e1, bnO_s, nm_x, e3, bnO_s]
theorem cl_use (h : PT S 5 W) (hG : Good W) (hc : HCl S n hs) (c : 0 ≤ a ∧ a < nB W) (hp : inR p) : (useR W a p ≠ 0 → fn_FP_use 0 a p S = some (0, useR W a p, S)) ∧ (useR W a p = 0 → Good (up W 13 a.toNat p) ∧ ∃ S', fn_FP_use 0 a p S = some (0, 0, S') ∧ CR S S' (up W 13 a.toNat p) (hpn n) (hph n hs W)) := by
  have z := h.v.z
  have hF : fn_FP_use 0 a p S = (if useR W a p = 0 then bnO (fn_History_keep 63 6 S) (fun p3 => bnO (fn_Plan_recount 5 (u p3 23 a.toNat p)) fun p6 => some (0, useR W a p, p6)) else some (0, useR W a p, S)) := by
    unfold fn_FP_use
    rw [F_needStandby h, if_pos c, bnO_s, if_pos rfl, tg_0_3, P_useReason h c, bnO_s, tg_0_4, tg_5_0, tg_6_2, tg_21_1]
    simp only [if_pos (by omega : 0 ≤ a ∧ a < 8), nm_x]
  rw [hF]
  refine ⟨fun d => if_neg d, fun d => ?_⟩
  have v := h.v.2.2.2.1 a c.1 c.2
  have hG' : Good (up W 13 a.toNat p) := by
    have q : isP W p = true ∧ (stOn W p (-1) = -1 ∧ at_ W 12 a ≤ rawR W p (-1) a) := by
      unfold useR at d
      by_cases c0 : isP W p = true
      · rw [if_pos c0] at d
        by_cases c1 : prP W p = true
        · rw [if_pos c1] at d; omega
        · rw [if_neg c1] at d
          by_cases c2 : isP W (at_ W 13 a) = true ∧ prP W (at_ W 13 a) = true
          · rw [if_pos c2] at d; omega
          · rw [if_neg c2] at d
            by_cases c3 : lefO W p (-1) a < at_ W 12 a
            · rw [if_pos c3] at d; omega
            · unfold lefO at c3
              by_cases c4 : stOn W p (-1) = -1
              · rw [if_pos c4, room_raw hG.1] at c3
                exact ⟨c0, c4, by omega⟩
              · rw [if_neg c4] at c3
                omega
      · rw [if_neg c0] at d; omega
    have ip := isP_b q.1
    exact Good_setB hG c ⟨by omega, by omega⟩ (.inr q.2)
  obtain ⟨S1, e1, c1⟩ := CR.keep h hc
  have vv : vC (u S1 23 a.toNat p) 6 = up W 13 a.toNat p := K_vB (k := 13) (by decide) c1.2.1.pl.1.2.1 c hp
  obtain ⟨S3, e3, c3⟩ := c1.page (k := 13) (S2 := u S1 23 a.toNat p) (by decide) vv ⟨hG'.1, hG'.2.1⟩ (Off.wt (by omega) (by omega))
  refine ⟨hG', S3, ?_, c3⟩
  rw [if_pos d, e1, bnO_s, e3, bnO_s, d]
theorem cl_setPrice (h : PT S 5 W) (hG : Good W) (hc : HCl S n hs) (c : 0 ≤ a ∧ a < nA W) (d : 1 ≤ p ∧ p ≤ 999) : Good (up W 4 a.toNat p) ∧ ∃ S', fn_FP_setPrice 0 a p S = some (0, at_ W 4 a, S') ∧ CR S S' (up W 4 a.toNat p) (hpn n) (hph n hs W) := by
  have b := h.pl.b
  have hG' := Good_other hG (k := 4) (i := a) (z := p) c.1 (.inr (.inr (.inl ⟨rfl, d⟩)))
  obtain ⟨S1, e1, c1⟩ := CR.keep h hc
  have e4 : g S1 12 a.toNat = at_ W 4 a := c1.2.1.pl.a4 c
  have vv : vC (u S1 12 a.toNat p) 6 = up W 4 a.toNat p := K_vA (k := 4) (by decide) c1.2.1.pl.1.2.1 c (by unfold inR; omega)
  have c3 := c1.row (k := 4) (S2 := u S1 12 a.toNat p) (by decide) vv ⟨hG'.1, hG'.2.1⟩ (Off.wt (by omega) (by omega))
  refine ⟨hG', _, ?_, c3⟩
  unfold fn_FP_setPrice
  rw [F_needAd h, if_pos c, bnO_s, if_pos rfl, F_isPrice, bnO_s, if_pos (decide_eq_true d), tg_0_4, tg_0_3, tg_5_0, e1, bnO_s, if_pos (by omega : 0 ≤ a ∧ a < 40), nm_x, tg_6_0, tg_7_4, e4]
theorem cl_setAd (h : PT S 5 W) (hG : Good W) (hc : HCl S n hs) (c : 0 ≤ a ∧ a < nA W) {x : Int} (hx : x = 0 ∨ x = 1) (d : 0 ≤ p ∧ p ≤ 2) : (at_ W 6 a ≠ 0 → fn_FP_setAd 0 a x p S = some (0, false, S)) ∧ (at_ W 6 a = 0 → Good (up (up W 2 a.toNat x) 3 a.toNat p) ∧ ∃ S', fn_FP_setAd 0 a x p S = some (0, true, S') ∧ CR S S' (up (up W 2 a.toNat x) 3 a.toNat p) (hpn n) (hph n hs W)) := by
  have b := h.pl.b
  have e6 : g S 14 a.toNat = at_ W 6 a := h.pl.a6 c
  unfold fn_FP_setAd
  rw [F_needAd h, if_pos c, bnO_s, if_pos rfl, if_neg (by omega : ¬ p < 0), if_pos d.2, if_pos (by omega : 0 ≤ a ∧ a < 40), tg_0_4, tg_0_3, tg_5_0, tg_6_0, tg_7_6, e6]
  refine ⟨fun q => if_neg q, fun d0 => ?_⟩
  have hG1 := Good_other hG (k := 2) (i := a) (z := x) c.1 (.inl ⟨rfl, hx, d0⟩)
  have hG2 := Good_other hG1 (k := 3) (i := a) (z := p) c.1 (.inr (.inl ⟨rfl, d, by rw [at_upn (by decide)]; exact d0⟩))
  have c' : 0 ≤ a ∧ a < nA (up W 2 a.toNat x) := by rw [nA_up (by decide)]; exact c
  have hix : inR x := by rcases hx with rfl | rfl <;> exact inRk rfl
  obtain ⟨S1, e1, c1⟩ := CR.keep h hc
  have vv : vC (u S1 10 a.toNat x) 6 = up W 2 a.toNat x := K_vA (k := 2) (by decide) c1.2.1.pl.1.2.1 c hix
  have c2 := c1.row (k := 2) (S2 := u S1 10 a.toNat x) (by decide) vv ⟨hG1.1, hG1.2.1⟩ (Off.wt (by omega) (by omega))
  have vv3 : vC (u (u S1 10 a.toNat x) 11 a.toNat p) 6 = up (up W 2 a.toNat x) 3 a.toNat p := K_vA (k := 3) (by decide) vv c' (by unfold inR; omega)
  have c3 := c2.row (k := 3) (S2 := u (u S1 10 a.toNat x) 11 a.toNat p) (by decide) vv3 ⟨hG2.1, hG2.2.1⟩ (Off.wt (by omega) (by omega))
  refine ⟨hG2, _, ?_, c3⟩
  rw [if_pos d0, e1, bnO_s, tg_7_2, tg_7_3]
  rcases hx with rfl | rfl
  · rfl
  · rfl
theorem cl_setColor (h : PT S 5 W) (hG : Good W) (hc : HCl S n hs) (c : 0 ≤ a ∧ a < frm W) {x : Int} (hx : x = 0 ∨ x = 1) : ((at_ W 15 a = 1 ∨ (x = 0 ∧ hasC W a = true)) → fn_FP_setColor 0 a x S = some (0, false, S)) ∧ (¬ (at_ W 15 a = 1 ∨ (x = 0 ∧ hasC W a = true)) → Good (up W 14 a.toNat x) ∧ ∃ S', fn_FP_setColor 0 a x S = some (0, true, S') ∧ CR S S' (up W 14 a.toNat x) (hpn n) (hph n hs W)) := by
  have fb := frm_b h.v
  have e1' : g S 26 a.toNat = at_ W 15 a := h.pl.f1 c
  have hF : fn_FP_setColor 0 a x S = (if at_ W 15 a = 1 ∨ (x = 0 ∧ hasC W a = true) then some (0, false, S) else bnO (fn_History_keep 63 6 S) fun p9 => some (0, true, u p9 25 a.toNat x)) := by
    unfold fn_FP_setColor
    rw [F_needForm h, if_pos c, bnO_s, if_pos rfl, if_pos (by omega : 0 ≤ a ∧ a < 8), tg_0_3, tg_0_4, tg_5_0, tg_6_3, tg_24_1, tg_24_0, e1', P_hasColorItem h.pl c.1, bnO_s]
    by_cases d : at_ W 15 a = 1
    · rw [if_pos d, if_pos (.inl d : at_ W 15 a = 1 ∨ (x = 0 ∧ hasC W a = true))]
    · rw [if_neg d]
      rcases hx with rfl | rfl
      · rw [if_pos rfl]
        by_cases d2 : hasC W a = true
        · rw [if_pos d2, if_pos (.inr ⟨rfl, d2⟩ : at_ W 15 a = 1 ∨ ((0 : Int) = 0 ∧ hasC W a = true))]
        · rw [if_neg d2, if_neg (fun z => z.elim d (fun z => d2 z.2) : ¬ (at_ W 15 a = 1 ∨ ((0 : Int) = 0 ∧ hasC W a = true)))]; rfl
      · rw [if_neg (by decide : ¬ (1 : Int) = 0), if_neg (fun z => z.elim d (fun z => absurd z.1 (by decide)) : ¬ (at_ W 15 a = 1 ∨ ((1 : Int) = 0 ∧ hasC W a = true)))]; rfl
  rw [hF]
  refine ⟨fun d => if_pos d, fun d => ?_⟩
  have hz : x = 1 ∨ (x = 0 ∧ hasC W a = false) := by
    rcases hx with hx | hx
    · right
      refine ⟨hx, ?_⟩
      cases e : hasC W a
      · rfl
      · exact absurd (.inr ⟨hx, e⟩) d
    · exact .inl hx
  have hix : inR x := by rcases hx with rfl | rfl <;> exact inRk rfl
  have hG' := Good_color hG c hz
  obtain ⟨S1, e1, c1⟩ := CR.keep h hc
  have vv : vC (u S1 25 a.toNat x) 6 = up W 14 a.toNat x := K_vF (k := 14) (by decide) c1.2.1.pl.1.2.1 c hix (fun z => by omega)
  have c3 := c1.row (k := 14) (S2 := u S1 25 a.toNat x) (by decide) vv ⟨hG'.1, hG'.2.1⟩ (Off.wt (by omega) (by omega))
  refine ⟨hG', _, ?_, c3⟩
  rw [if_neg d, e1, bnO_s]
theorem cl_print (h : PT S 5 W) (hG : Good W) (hc : HCl S n hs) (c : 0 ≤ a ∧ a < frm W) : ((at_ W 15 a = 1 ∨ 0 < latF W a) → fn_FP_print 0 a S = some (0, -4, S)) ∧ (¬ (at_ W 15 a = 1 ∨ 0 < latF W a) → Good (up W 15 a.toNat 1) ∧ ∃ S', fn_FP_print 0 a S = some (0, lefF (up W 15 a.toNat 1) a, S') ∧ CR S S' (up W 15 a.toNat 1) (hpn n) (hph n hs W)) := by
  have fb := frm_b h.v
  have e1' : g S 26 a.toNat = at_ W 15 a := h.pl.f1 c
  have hF : fn_FP_print 0 a S = (if at_ W 15 a = 1 then some (0, -4, S) else if latF W a ≤ 0 then (bnO (fn_History_keep 63 6 S) fun p4 => bnO (fn_Plan_leftOnForm 5 a (u p4 26 a.toNat 1)) fun p6 => some (0, p6, u p4 26 a.toNat 1)) else some (0, -4, S)) := by
    unfold fn_FP_print
    rw [F_needForm h, if_pos c, bnO_s, if_pos rfl, if_pos (by omega : 0 ≤ a ∧ a < 8)]
    simp only [tg_0_3, tg_0_4, tg_5_0, tg_6_3, tg_24_1, e1', P_lateOnForm h.pl c.1, bnO_s, nm_x]
  rw [hF]
  by_cases d : at_ W 15 a = 1
  · rw [if_pos d]
    exact ⟨fun _ => rfl, fun q => absurd (.inl d) q⟩
  · rw [if_neg d]
    by_cases d2 : latF W a ≤ 0
    · rw [if_pos d2]
      refine ⟨fun q => absurd q (fun z => z.elim d (fun z => by omega)), fun _ => ?_⟩
      have hG' := Good_other hG (k := 15) (i := a) (z := 1) c.1 (.inr (.inr (.inr (.inl ⟨rfl, rfl⟩))))
      obtain ⟨S1, e1, c1⟩ := CR.keep h hc
      have vv : vC (u S1 26 a.toNat 1) 6 = up W 15 a.toNat 1 := K_vF (k := 15) (by decide) c1.2.1.pl.1.2.1 c (inRk rfl) (fun z => by omega)
      have c3 := c1.row (k := 15) (S2 := u S1 26 a.toNat 1) (by decide) vv ⟨hG'.1, hG'.2.1⟩ (Off.wt (by omega) (by omega))
      refine ⟨hG', _, ?_, c3⟩
      rw [e1, bnO_s, P_leftOnForm c3.2.1, bnO_s]
    · rw [if_neg d2]
      exact ⟨fun _ => rfl, fun q => absurd (.inr (by omega)) q⟩
end ChgC
