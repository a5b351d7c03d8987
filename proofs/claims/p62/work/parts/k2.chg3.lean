/-! CHANGES: an ad more -/
section ChgC3
variable {S : St} {W : Vw} {n : Int} {hs : Int → Vw}
theorem cl_addAd (h : PT S 5 W) (hG : Good W) (hc : HCl S n hs) {s y p r : Int} (c : (s = 1 ∨ s = 2 ∨ s = 4) ∧ (0 ≤ y ∧ y ≤ 9) ∧ (1 ≤ p ∧ p ≤ 999) ∧ (0 ≤ r ∧ r ≤ 9999)) : (¬ nA W < 40 → fn_FP_addAd 0 s y p r S = some (0, -2, S)) ∧ (nA W < 40 → Good (addV W s y p r) ∧ ∃ S', fn_FP_addAd 0 s y p r S = some (0, nA W, S') ∧ CR S S' (addV W s y p r) (hpn n) (hph n hs W)) := by
  have z := h.v.z
  have hi_s : inR s := by unfold inR; omega
  have hi_y : inR y := by unfold inR; omega
  have hi_p : inR p := by unfold inR; omega
  have hi_r : inR r := by unfold inR; omega
  have e7 : g S 7 7 = nA W := h.pl.mA
  have hF : fn_FP_addAd 0 s y p r S = (if (s = 1 ∨ s = 2 ∨ s = 4) ∧ (0 ≤ y ∧ y ≤ 9) ∧ (1 ≤ p ∧ p ≤ 999) ∧ (0 ≤ r ∧ r ≤ 9999) then (if nA W < 40 then (bnO (fn_History_keep 63 6 S) fun p5 => bnO (fn_Ads_add 7 s y p r p5) fun p6 => some (0, p6.1, p6.2)) else some (0, -2, S)) else some (2, 0, S)) := by
    unfold fn_FP_addAd
    rw [F_isSize, bnO_s, F_isPrice, bnO_s, tg_0_3, tg_0_4, tg_5_0, tg_6_0, e7]
    by_cases c1 : s = 1 ∨ s = 2 ∨ s = 4
    · rw [if_pos (decide_eq_true c1)]
      by_cases c2 : y < 0
      · rw [if_pos c2, if_neg (fun q => by omega)]
      · rw [if_neg c2]
        by_cases c3 : 10 ≤ y
        · rw [if_pos c3, if_neg (fun q => by omega)]
        · rw [if_neg c3]
          by_cases c4 : 1 ≤ p ∧ p ≤ 999
          · rw [if_pos (decide_eq_true c4)]
            by_cases c5 : r < 0
            · rw [if_pos c5, if_neg (fun q => by omega)]
            · rw [if_neg c5]
              by_cases c6 : r ≤ 9999
              · rw [if_pos c6, if_pos (⟨c1, ⟨by omega, by omega⟩, c4, by omega, c6⟩ : (s = 1 ∨ s = 2 ∨ s = 4) ∧ (0 ≤ y ∧ y ≤ 9) ∧ (1 ≤ p ∧ p ≤ 999) ∧ (0 ≤ r ∧ r ≤ 9999))]
              · rw [if_neg c6, if_neg (fun q => by omega)]
          · rw [if_neg (by rw [decide_eq_true_eq]; exact c4), if_neg (fun q => c4 q.2.2.1)]
    · rw [if_neg (by rw [decide_eq_true_eq]; exact c1), if_neg (fun q => c1 q.1)]
  rw [hF, if_pos c]
  refine ⟨fun d => if_neg d, fun d => ?_⟩
  have hG' := Good_add hG d c.1 c.2.1 c.2.2.1 c.2.2.2
  obtain ⟨S1, e1, c1⟩ := CR.keep h hc
  obtain ⟨S2, e2, o2, v2⟩ := K_add (s := s) (y := y) (p := p) (r := r) c1.2.1.pl.1.2.1 ⟨z.1.1, d⟩ hi_s hi_y hi_p hi_r
  have hC : CR S S2 (addV W s y p r) (hpn n) (hph n hs W) := by
    refine ⟨c1.1.trans (o2.oc (by omega)), ?_, c1.2.2.off o2 (by omega)⟩
    obtain ⟨n1, n2, n3, n4, n5, n6⟩ := addV_n (W := W) (s := s) (y := y) (p := p) (r := r)
    have ep : pgs (addV W s y p r) = pgs W := by unfold pgs; rw [n4, n5]
    have hp1 := c1.2.1
    have elf : ∀ q, 1 ≤ q → q ≤ pgs W → lf (addV W s y p r) q = lf W q := by
      intro q q1 q2
      have es : stOn (addV W s y p r) q (-1) = stOn W q (-1) := by
        unfold stOn
        rw [n2]
        refine fstR_congr (fun t t1 t2 => ?_)
        unfold cov
        rw [addV_o t1 (by omega) (by decide), addV_o t1 (by omega) (by decide)]
      unfold lf lefO
      rw [es, room_raw hG'.1, room_raw hG.1]
      have hsum : rawR (addV W s y p r) q (-1) (-1) = rawR W q (-1) (-1) := by
        unfold rawR sumA sumB
        rw [n1, n3, show (nA W + 1).toNat = (nA W).toNat + 1 by omega, sumR_snoc, show (0 : Int) + ((nA W).toNat : Int) = nA W by omega]
        have e1 : sumR (fun a => -szA (addV W s y p r) q (-1) a) 0 (nA W).toNat = sumR (fun a => -szA W q (-1) a) 0 (nA W).toNat := by
          refine sumR_congr (fun j h1 h2 => ?_)
          unfold szA
          rw [addV_o (k := 6) h1 (fun _ => by omega) (by decide), addV_o (k := 0) h1 (fun _ => by omega) (by decide)]
        have e2 : sumR (fun b => -szB (addV W s y p r) q (-1) b) 0 (nB W).toNat = sumR (fun b => -szB W q (-1) b) 0 (nB W).toNat := by
          refine sumR_congr (fun j h1 h2 => ?_)
          unfold szB
          rw [addV_o (k := 13) h1 (by omega) (by decide), addV_o (k := 12) h1 (by omega) (by decide)]
        have e3 : szA (addV W s y p r) q (-1) (nA W) = 0 := by
          unfold szA
          rw [addV_new z.1.1 (by decide), if_neg (fun q => by have := q.2; simp at this; omega)]
        rw [e1, e2, e3]
        omega
      rw [hsum]
    have est : ∀ q, stOn (addV W s y p r) q (-1) = stOn W q (-1) := by
      intro q
      unfold stOn
      rw [n2]
      refine fstR_congr (fun t t1 t2 => ?_)
      unfold cov
      rw [addV_o t1 (by omega) (by decide), addV_o t1 (by omega) (by decide)]
    have egr : ∀ x t, grp (addV W s y p r) x t = grp W x t := by
      intro x t
      unfold grp sumA
      rw [n1, show (nA W + 1).toNat = (nA W).toNat + 1 by omega, sumR_snoc, show (0 : Int) + ((nA W).toNat : Int) = nA W by omega]
      have e6 : at_ (addV W s y p r) 6 (nA W) = 0 := addV_new z.1.1 (by decide)
      have e1 : sumR (fun a => if at_ (addV W s y p r) 1 a = x then (if at_ (addV W s y p r) 6 a ≤ 0 then 0 else if at_ (addV W s y p r) 6 a / 2 = t then 1 else 0) else 0) 0 (nA W).toNat = sumR (fun a => if at_ W 1 a = x then (if at_ W 6 a ≤ 0 then 0 else if at_ W 6 a / 2 = t then 1 else 0) else 0) 0 (nA W).toNat := by
        refine sumR_congr (fun j h1 h2 => ?_)
        rw [addV_o (k := 6) h1 (fun _ => by omega) (by decide), addV_o (k := 1) h1 (fun _ => by omega) (by decide)]
      rw [e1, e6]
      simp
    refine ⟨⟨⟨.inl rfl, v2, hG'.1⟩, ⟨?_, ?_⟩, fun q q1 q2 => ?_⟩, ⟨fun q q1 q2 => ?_, fun x t x1 x2 t1 t2 => ?_⟩, hG'.2.1⟩
    · rw [o2.rd (by omega), ep]; exact hp1.pl.gp
    · rw [o2.rd (by omega)]; unfold frm; rw [n4]; exact hp1.pl.gf
    · rw [ep] at q2
      unfold fOf
      rw [n5, o2.rd (by omega), o2.rd (by omega)]
      exact ⟨hp1.pl.fo q1 q2, hp1.pl.sO q1 q2⟩
    · rw [ep] at q2
      rw [elf q q1 q2, est q, o2.rd (by omega), o2.rd (by omega)]
      exact ⟨hp1.l q1 q2, hp1.s q1 q2⟩
    · rw [egr, o2.rd (by omega)]
      exact hp1.gr ⟨x1, x2⟩ ⟨t1, t2⟩
  refine ⟨hG', S2, ?_, hC⟩
  rw [if_pos d, e1, bnO_s, e2, bnO_s]
end ChgC3
