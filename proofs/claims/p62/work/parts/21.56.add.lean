section AddAd2
variable {S T : St} {W : Vw} {s y p r : Int}
theorem M_soa {a k z : Int} (ha : 0 ≤ a ∧ a < 40) (hk : 0 ≤ k ∧ k < 7) : fn_Mo_setOfAd 514 a k z T = some (u T 515 (29 + 7 * a + k).toNat z) := by
  unfold fn_Mo_setOfAd
  rw [if_pos (by omega), tg_514_0]; rfl
theorem M_addRow {T0 : St} {n' : Int} {hs' : Int → Vw} (h : RM T0 T W n' hs') (hn : nA W < 40) (hG : Good W) (hs : s = 1 ∨ s = 2 ∨ s = 4) (hy : 0 ≤ y ∧ y ≤ 9) (hp : 1 ≤ p ∧ p ≤ 999) (hr : 0 ≤ r ∧ r ≤ 9999) :
    ∃ T', (nm (u T 515 1 (nA W + 1)) fun S7 => bnO (fn_Mo_setOfAd 514 (nA W) 0 s S7) fun p8 => bnO (fn_Mo_setOfAd 514 (nA W) 1 y p8) fun p9 => bnO (fn_Mo_setOfAd 514 (nA W) 2 0 p9) fun p10 => bnO (fn_Mo_setOfAd 514 (nA W) 3 0 p10) fun p11 => bnO (fn_Mo_setOfAd 514 (nA W) 4 p p11) fun p12 => bnO (fn_Mo_setOfAd 514 (nA W) 5 r p12) fun p13 => bnO (fn_Mo_setOfAd 514 (nA W) 6 0 p13) fun p14 => some (nA W, p14)) = some (nA W, T') ∧ RM T0 T' (addV W s y p r) n' hs' := by
  have z := hG.1.z
  have ha : 0 ≤ nA W ∧ nA W < 40 := ⟨z.1.1, hn⟩
  have hG' := Good_add hG hn hs hy hp hr
  obtain ⟨N, hN⟩ : ∃ N : Nat, nA W = (N : Int) := ⟨(nA W).toNat, by omega⟩
  have ix : ∀ k : Nat, k < 7 → (29 + 7 * nA W + (k : Int)).toNat = 29 + 7 * N + k := fun k hk => by omega
  have ix0 : (29 + 7 * nA W + 0).toNat = 29 + 7 * N + 0 := ix 0 (by decide)
  have ix1 : (29 + 7 * nA W + 1).toNat = 29 + 7 * N + 1 := ix 1 (by decide)
  have ix2 : (29 + 7 * nA W + 2).toNat = 29 + 7 * N + 2 := ix 2 (by decide)
  have ix3 : (29 + 7 * nA W + 3).toNat = 29 + 7 * N + 3 := ix 3 (by decide)
  have ix4 : (29 + 7 * nA W + 4).toNat = 29 + 7 * N + 4 := ix 4 (by decide)
  have ix5 : (29 + 7 * nA W + 5).toNat = 29 + 7 * N + 5 := ix 5 (by decide)
  have ix6 : (29 + 7 * nA W + 6).toNat = 29 + 7 * N + 6 := ix 6 (by decide)
  obtain ⟨S1, h1⟩ : ∃ S1, S1 = u T 515 1 (nA W + 1) := ⟨_, rfl⟩
  obtain ⟨S2, h2⟩ : ∃ S2, S2 = u S1 515 (29 + 7 * N + 0) s := ⟨_, rfl⟩
  obtain ⟨S3, h3⟩ : ∃ S3, S3 = u S2 515 (29 + 7 * N + 1) y := ⟨_, rfl⟩
  obtain ⟨S4, h4⟩ : ∃ S4, S4 = u S3 515 (29 + 7 * N + 2) 0 := ⟨_, rfl⟩
  obtain ⟨S5, h5⟩ : ∃ S5, S5 = u S4 515 (29 + 7 * N + 3) 0 := ⟨_, rfl⟩
  obtain ⟨S6, h6⟩ : ∃ S6, S6 = u S5 515 (29 + 7 * N + 4) p := ⟨_, rfl⟩
  obtain ⟨S7, h7⟩ : ∃ S7, S7 = u S6 515 (29 + 7 * N + 5) r := ⟨_, rfl⟩
  obtain ⟨S8, h8⟩ : ∃ S8, S8 = u S7 515 (29 + 7 * N + 6) 0 := ⟨_, rfl⟩
  refine ⟨S8, ?_, ?_⟩
  · rw [nm_x, ← h1, M_soa ha (by omega), bnO_s, ix0, ← h2, M_soa ha (by omega), bnO_s, ix1, ← h3, M_soa ha (by omega), bnO_s, ix2, ← h4, M_soa ha (by omega), bnO_s, ix3, ← h5, M_soa ha (by omega), bnO_s, ix4, ← h6, M_soa ha (by omega), bnO_s, ix5, ← h7, M_soa ha (by omega), bnO_s, ix6, ← h8]
  · have oth : ∀ c f, ¬ (c = 515 ∧ (f = 1 ∨ (29 + 7 * N ≤ f ∧ f < 36 + 7 * N))) → g S8 c f = g T c f := by
      intro c f hc
      rw [h8, g_ne (by omega), h7, g_ne (by omega), h6, g_ne (by omega), h5, g_ne (by omega), h4, g_ne (by omega), h3, g_ne (by omega), h2, g_ne (by omega), h1, g_ne (by omega)]
    have g1 : g S8 515 1 = nA W + 1 := by
      rw [h8, g_ne (by omega), h7, g_ne (by omega), h6, g_ne (by omega), h5, g_ne (by omega), h4, g_ne (by omega), h3, g_ne (by omega), h2, g_ne (by omega), h1, g_eq, wr_s (by omega) (by omega)]
    have r0 : g S8 515 (29 + 7 * N + 0) = s := by
      rw [h8, g_ne (by omega), h7, g_ne (by omega), h6, g_ne (by omega), h5, g_ne (by omega), h4, g_ne (by omega), h3, g_ne (by omega), h2, g_eq, wr_s (by omega) (by omega)]
    have r1 : g S8 515 (29 + 7 * N + 1) = y := by
      rw [h8, g_ne (by omega), h7, g_ne (by omega), h6, g_ne (by omega), h5, g_ne (by omega), h4, g_ne (by omega), h3, g_eq, wr_s (by omega) (by omega)]
    have r2 : g S8 515 (29 + 7 * N + 2) = 0 := by
      rw [h8, g_ne (by omega), h7, g_ne (by omega), h6, g_ne (by omega), h5, g_ne (by omega), h4, g_eq, wr_0]
    have r3 : g S8 515 (29 + 7 * N + 3) = 0 := by
      rw [h8, g_ne (by omega), h7, g_ne (by omega), h6, g_ne (by omega), h5, g_eq, wr_0]
    have r4 : g S8 515 (29 + 7 * N + 4) = p := by
      rw [h8, g_ne (by omega), h7, g_ne (by omega), h6, g_eq, wr_s (by omega) (by omega)]
    have r5 : g S8 515 (29 + 7 * N + 5) = r := by
      rw [h8, g_ne (by omega), h7, g_eq, wr_s (by omega) (by omega)]
    have r6 : g S8 515 (29 + 7 * N + 6) = 0 := by
      rw [h8, g_eq, wr_0]
    have mb := h.2.2.1.mb
    obtain ⟨hA0, hA, hS0, hS, hB0, hB, hF0, hF⟩ := mb
    have eA := h.2.2.1.mA
    refine ⟨h.1.trans ⟨?_, fun f f1 f2 => oth _ _ (by omega)⟩, ?_, ⟨?_, hG'.1⟩, h.2.2.2.low (oth _ _ (by omega)) (oth _ _ (by omega)) (oth _ _ (by omega)) (fun f hf => oth _ _ (by omega))⟩
    · rw [h8, h7, h6, h5, h4, h3, h2, h1]
      refine Off.tu (Off.tu (Off.tu (Off.tu (Off.tu (Off.tu (Off.tu (Off.wt ?_ ?_) ?_ ?_) ?_ ?_) ?_ ?_) ?_ ?_) ?_ ?_) ?_ ?_) ?_ ?_ <;> omega
    · rw [oth _ _ (by omega)]; exact h.2.1
    · funext k i
      unfold addV
      by_cases c : k < 7 ∧ (i : Int) = nA W
      · rw [if_pos c]
        have ei : i = N := by omega
        unfold vM
        rw [if_pos c.1, show 380 * 0 + 1 = 1 from rfl, g1, if_pos (by omega), ei, show 380 * 0 + 29 = 29 from rfl]
        have hk := c.1
        have k7 : k = 0 ∨ k = 1 ∨ k = 2 ∨ k = 3 ∨ k = 4 ∨ k = 5 ∨ k = 6 := by omega
        rcases k7 with rfl | rfl | rfl | rfl | rfl | rfl | rfl
        · rw [r0]; rfl
        · rw [r1]; rfl
        · rw [r2]; rfl
        · rw [r3]; rfl
        · rw [r4]; rfl
        · rw [r5]; rfl
        · rw [r6]; rfl
      · rw [if_neg c]
        by_cases d : k = 17 ∧ i = 0
        · rw [if_pos d, d.1, d.2]
          have e : vM S8 0 17 0 = g S8 515 1 := rfl
          rw [e]; exact g1
        · rw [if_neg d, ← h.2.2.1.1]
          unfold vM
          simp only [Nat.mul_zero, Nat.zero_add]
          by_cases k1 : k < 7
          · simp only [k1, if_true]
            rw [g1, eA]
            by_cases ci : (i : Int) < nA W
            · rw [if_pos (by omega), if_pos ci, oth _ _ (by omega)]
            · rw [if_neg (by omega), if_neg ci]
          · by_cases k2 : k < 12
            · simp only [k1, k2, if_true, if_false]
              rw [oth 515 2 (by omega)]
              by_cases ci : (i : Int) < g T 515 2
              · rw [if_pos ci, if_pos ci, oth _ _ (by omega)]
              · rw [if_neg ci, if_neg ci]
            · by_cases k3 : k < 14
              · simp only [k1, k2, k3, if_true, if_false]
                rw [oth 515 3 (by omega)]
                by_cases ci : (i : Int) < g T 515 3
                · rw [if_pos ci, if_pos ci, oth _ _ (by omega)]
                · rw [if_neg ci, if_neg ci]
              · by_cases k4 : k < 17
                · simp only [k1, k2, k3, k4, if_true, if_false]
                  rw [oth 514 1 (by omega)]
                  by_cases ci : (i : Int) < 2 * g T 514 1
                  · rw [if_pos ci, if_pos ci, oth _ _ (by omega)]
                  · rw [if_neg ci, if_neg ci]
                · by_cases k6 : 17 < k
                  · simp only [k1, k2, k3, k4, k6, if_true, if_false]
                  · simp only [k1, k2, k3, k4, k6, if_false]
                    have i0 : i ≠ 0 := fun z => d ⟨by omega, z⟩
                    rw [oth 515 2 (by omega), oth 515 3 (by omega), oth 514 1 (by omega), oth 514 2 (by omega), oth 515 0 (by omega), oth 515 4 (by omega)]
                    exact cntV_0 i0
theorem F_isSize {z : Int} : fn_FP_isSize z S = some (decide (z = 1 ∨ z = 2 ∨ z = 4)) := by
  unfold fn_FP_isSize
  by_cases c1 : z = 1
  · rw [if_pos c1, decide_eq_true (.inl c1)]
  · rw [if_neg c1]
    by_cases c2 : z = 2
    · rw [if_pos c2, decide_eq_true (.inr (.inl c2))]
    · rw [if_neg c2]
      by_cases c3 : z = 4
      · rw [if_pos c3, decide_eq_true (.inr (.inr c3))]
      · rw [if_neg c3, decide_eq_false (by omega)]
theorem M_isSize {z : Int} : fn_Mo_isSize z S = some (decide (z = 1 ∨ z = 2 ∨ z = 4)) := by
  unfold fn_Mo_isSize
  by_cases c1 : z = 1
  · rw [if_pos c1, decide_eq_true (.inl c1)]
  · rw [if_neg c1]
    by_cases c2 : z = 2
    · rw [if_pos c2, decide_eq_true (.inr (.inl c2))]
    · rw [if_neg c2]
      by_cases c3 : z = 4
      · rw [if_pos c3, decide_eq_true (.inr (.inr c3))]
      · rw [if_neg c3, decide_eq_false (by omega)]
theorem ok_addAd (hI : Inv S) {s y p r : Int} (hi_s : inR s) (hi_y : inR y) (hi_p : inR p) (hi_r : inR r) : ∃ e S1 x S2, fn_Law_addAd 0 s y p r 524 S = some (e, S1) ∧ fn_Mo_addAd 514 s y p r S1 = some (x, S2) ∧ Fin S2 e x := by
  obtain ⟨W, n, hs, hG, hH, hP⟩ := hI
  have h := hP.1.1
  have z := h.v.z
  have e7 : g S 7 7 = nA W := h.pl.mA
  have hF : fn_FP_addAd 0 s y p r S = (if (s = 1 ∨ s = 2 ∨ s = 4) ∧ (0 ≤ y ∧ y ≤ 9) ∧ (1 ≤ p ∧ p ≤ 999) ∧ (0 ≤ r ∧ r ≤ 9999) then (if nA W < 40 then (bnO (fn_History_keep 63 6 S) fun p5 => bnO (fn_Ads_add 7 s y p r p5) fun p6 => some (0, p6.1, p6.2)) else some (0, -2, S)) else some (2, 0, S)) := by
    unfold fn_FP_addAd
    rw [F_isSize, bnO_s, F_isPrice, bnO_s, tg_0_3, tg_0_4, tg_5_0, tg_6_0, e7]
    by_cases c1 : s = 1 ∨ s = 2 ∨ s = 4
    · rw [if_pos (decide_eq_true c1)]
      by_cases c2 : y < 0
      · rw [if_pos c2, if_neg (fun q => by omega)]
      · rw [if_neg c2]
        by_cases c3 : 10 ≤ y
        · rw [if_pos c3, if_neg (fun q => by omega)]
        · rw [if_neg c3]
          by_cases c4 : 1 ≤ p ∧ p ≤ 999
          · rw [if_pos (decide_eq_true c4)]
            by_cases c5 : r < 0
            · rw [if_pos c5, if_neg (fun q => by omega)]
            · rw [if_neg c5]
              by_cases c6 : r ≤ 9999
              · rw [if_pos c6, if_pos (⟨c1, ⟨by omega, by omega⟩, c4, by omega, c6⟩ : (s = 1 ∨ s = 2 ∨ s = 4) ∧ (0 ≤ y ∧ y ≤ 9) ∧ (1 ≤ p ∧ p ≤ 999) ∧ (0 ≤ r ∧ r ≤ 9999))]
              · rw [if_neg c6, if_neg (fun q => by omega)]
          · rw [if_neg (by rw [decide_eq_true_eq]; exact c4), if_neg (fun q => c4 q.2.2.1)]
    · rw [if_neg (by rw [decide_eq_true_eq]; exact c1), if_neg (fun q => c1 q.1)]
  have hM : ∀ T, MV T W → fn_Mo_addAd 514 s y p r T = (if (s = 1 ∨ s = 2 ∨ s = 4) ∧ (0 ≤ y ∧ y ≤ 9) ∧ (1 ≤ p ∧ p ≤ 999) ∧ (0 ≤ r ∧ r ≤ 9999) then jf_Mo_addAd_55 514 s y p r 0 514 (u T 514 4 0) else jf_Mo_addAd_55 514 s y p r 1 514 (u T 514 4 0)) := by
    intro T hT
    unfold fn_Mo_addAd
    rw [nm_x, M_isSize, bnO_s, Mo_inRange, bnO_s, Mo_inRange, bnO_s, Mo_inRange, bnO_s]
    by_cases c1 : s = 1 ∨ s = 2 ∨ s = 4
    · rw [if_pos (decide_eq_true c1)]
      by_cases c2 : 0 ≤ y ∧ y ≤ 9
      · rw [if_pos (decide_eq_true c2)]
        by_cases c3 : 1 ≤ p ∧ p ≤ 999
        · rw [if_pos (decide_eq_true c3)]
          by_cases c4 : 0 ≤ r ∧ r ≤ 9999
          · rw [if_pos (decide_eq_true c4), if_pos (⟨c1, c2, c3, c4⟩ : (s = 1 ∨ s = 2 ∨ s = 4) ∧ (0 ≤ y ∧ y ≤ 9) ∧ (1 ≤ p ∧ p ≤ 999) ∧ (0 ≤ r ∧ r ≤ 9999))]
          · rw [if_neg (by rw [decide_eq_true_eq]; exact c4), if_neg (fun q => c4 q.2.2.2)]
        · rw [if_neg (by rw [decide_eq_true_eq]; exact c3), if_neg (fun q => c3 q.2.2.1)]
      · rw [if_neg (by rw [decide_eq_true_eq]; exact c2), if_neg (fun q => c2 q.2.1)]
    · rw [if_neg (by rw [decide_eq_true_eq]; exact c1), if_neg (fun q => c1 q.1)]
  by_cases c : (s = 1 ∨ s = 2 ∨ s = 4) ∧ (0 ≤ y ∧ y ≤ 9) ∧ (1 ≤ p ∧ p ≤ 999) ∧ (0 ≤ r ∧ r ≤ 9999)
  · by_cases d : nA W < 40
    · have hG' := Good_add hG d c.1 c.2.1 c.2.2.1 c.2.2.2
      obtain ⟨S1, e1, c1⟩ := CR.keepG hP
      obtain ⟨S2, e2, o2, v2⟩ := K_add (s := s) (y := y) (p := p) (r := r) c1.2.1.pl.1.2.1 ⟨z.1.1, d⟩ hi_s hi_y hi_p hi_r
      have hC : CR S S2 (addV W s y p r) (hpn n) (hph n hs W) := by
        refine ⟨c1.1.trans (o2.oc (by omega)), ?_, c1.2.2.off o2 (by omega)⟩
        obtain ⟨n1, n2, n3, n4, n5, n6⟩ := addV_n (W := W) (s := s) (y := y) (p := p) (r := r)
        have ep : pgs (addV W s y p r) = pgs W := by unfold pgs; rw [n4, n5]
        have hp1 := c1.2.1
        have elf : ∀ q, 1 ≤ q → q ≤ pgs W → lf (addV W s y p r) q = lf W q := by
          intro q q1 q2
          have es : stOn (addV W s y p r) q (-1) = stOn W q (-1) := by
            unfold stOn
            rw [n2]
            refine fstR_congr (fun t t1 t2 => ?_)
            unfold cov
            rw [addV_o t1 (by omega) (by decide), addV_o t1 (by omega) (by decide)]
          unfold lf lefO
          rw [es, room_raw hG'.1, room_raw hG.1]
          have hsum : rawR (addV W s y p r) q (-1) (-1) = rawR W q (-1) (-1) := by
            unfold rawR sumA sumB
            rw [n1, n3, show (nA W + 1).toNat = (nA W).toNat + 1 by omega, sumR_snoc, show (0 : Int) + ((nA W).toNat : Int) = nA W by omega]
            have e1 : sumR (fun a => -szA (addV W s y p r) q (-1) a) 0 (nA W).toNat = sumR (fun a => -szA W q (-1) a) 0 (nA W).toNat := by
              refine sumR_congr (fun j h1 h2 => ?_)
              unfold szA
              rw [addV_o (k := 6) h1 (fun _ => by omega) (by decide), addV_o (k := 0) h1 (fun _ => by omega) (by decide)]
            have e2 : sumR (fun b => -szB (addV W s y p r) q (-1) b) 0 (nB W).toNat = sumR (fun b => -szB W q (-1) b) 0 (nB W).toNat := by
              refine sumR_congr (fun j h1 h2 => ?_)
              unfold szB
              rw [addV_o (k := 13) h1 (by omega) (by decide), addV_o (k := 12) h1 (by omega) (by decide)]
            have e3 : szA (addV W s y p r) q (-1) (nA W) = 0 := by
              unfold szA
              rw [addV_new z.1.1 (by decide), if_neg (fun q => by have := q.2; simp at this; omega)]
            rw [e1, e2, e3]
            omega
          rw [hsum]
        have est : ∀ q, stOn (addV W s y p r) q (-1) = stOn W q (-1) := by
          intro q
          unfold stOn
          rw [n2]
          refine fstR_congr (fun t t1 t2 => ?_)
          unfold cov
          rw [addV_o t1 (by omega) (by decide), addV_o t1 (by omega) (by decide)]
        have egr : ∀ x t, grp (addV W s y p r) x t = grp W x t := by
          intro x t
          unfold grp sumA
          rw [n1, show (nA W + 1).toNat = (nA W).toNat + 1 by omega, sumR_snoc, show (0 : Int) + ((nA W).toNat : Int) = nA W by omega]
          have e6 : at_ (addV W s y p r) 6 (nA W) = 0 := addV_new z.1.1 (by decide)
          have e1 : sumR (fun a => if at_ (addV W s y p r) 1 a = x then (if at_ (addV W s y p r) 6 a ≤ 0 then 0 else if at_ (addV W s y p r) 6 a / 2 = t then 1 else 0) else 0) 0 (nA W).toNat = sumR (fun a => if at_ W 1 a = x then (if at_ W 6 a ≤ 0 then 0 else if at_ W 6 a / 2 = t then 1 else 0) else 0) 0 (nA W).toNat := by
            refine sumR_congr (fun j h1 h2 => ?_)
            rw [addV_o (k := 6) h1 (fun _ => by omega) (by decide), addV_o (k := 1) h1 (fun _ => by omega) (by decide)]
          rw [e1, e6]
          simp
        refine ⟨⟨⟨.inl rfl, v2, hG'.1⟩, ⟨?_, ?_⟩, fun q q1 q2 => ?_⟩, ⟨fun q q1 q2 => ?_, fun x t x1 x2 t1 t2 => ?_⟩, hG'.2.1⟩
        · rw [o2.rd (by omega), ep]; exact hp1.pl.gp
        · rw [o2.rd (by omega)]; unfold frm; rw [n4]; exact hp1.pl.gf
        · rw [ep] at q2
          unfold fOf
          rw [n5, o2.rd (by omega), o2.rd (by omega)]
          exact ⟨hp1.pl.fo q1 q2, hp1.pl.sO q1 q2⟩
        · rw [ep] at q2
          rw [elf q q1 q2, est q, o2.rd (by omega), o2.rd (by omega)]
          exact ⟨hp1.l q1 q2, hp1.s q1 q2⟩
        · rw [egr, o2.rd (by omega)]
          exact hp1.gr ⟨x1, x2⟩ ⟨t1, t2⟩
      have m0 := rm_out (r := nA W) hP hC
      obtain ⟨T1, f1, r1⟩ := (RM.begin m0.1 m0.2).record hP.2.1.1.1 hH
      obtain ⟨T2, f2, r2⟩ := M_addRow r1 d hG c.1 c.2.1 c.2.2.1 c.2.2.2
      have gA : g T1 515 1 = nA W := r1.2.2.1.mA
      refine ⟨0, ul S2 524 0 (nA W), nA W, T2, ?_, ?_, fin2 hP hG' (hH.push hG) hC ⟨by omega, by omega⟩ r2⟩
      · unfold fn_Law_addAd
        rw [hF, if_pos c, if_pos d, e1, bnO_s, e2, bnO_s]; rfl
      · rw [hM _ m0.1, if_pos c]
        unfold jf_Mo_addAd_55
        rw [Mo_thr0, bnO_s, if_neg Bool.false_ne_true, tg_514_0, m0.1.thr.mA, if_neg (by omega), f1, bnO_s, gA]
        exact f2
    · refine ⟨0, ul S 524 0 (-2), -2, u (ul S 524 0 (-2)) 514 4 0, ?_, ?_, fin0 hG hH hP (inRk rfl)⟩
      · unfold fn_Law_addAd
        rw [hF, if_pos c, if_neg d]; rfl
      · have mo := (hP.out (S' := ul S 524 0 (-2)) (Off.wtl (by omega) (by omega))).1.2
        rw [hM _ mo, if_pos c]
        unfold jf_Mo_addAd_55
        rw [Mo_thr0, bnO_s, if_neg Bool.false_ne_true, tg_514_0, mo.thr.mA, if_pos (by omega)]
  · refine ⟨1, S, 0, u (u S 514 4 0) 514 4 1, ?_, ?_, fin1 hG hH hP (.inl rfl)⟩
    · unfold fn_Law_addAd
      rw [hF, if_neg c]; rfl
    · rw [hM _ hP.1.2, if_neg c]
      unfold jf_Mo_addAd_55
      rw [Mo_thr1, bnO_s, if_pos rfl]
end AddAd2
