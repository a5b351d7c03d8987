section Exch2
variable {S T : St} {W : Vw} {p q : Int}
/-! the reference's pages, exchanged and back: without thinking of what was thrown -/
def RN (T T' : St) (W' : Vw) (n' : Int) (hs' : Int → Vw) : Prop := OM T T' ∧ g T' 514 4 = g T 514 4 ∧ MV T' W' ∧ HMo T' n' hs'
theorem M_swap {T0 : St} {n' : Int} {hs' : Int → Vw} (hV : Val W) (hp : 1 ≤ p ∧ p ≤ pgs W) (hq : 1 ≤ q ∧ q ≤ pgs W) (h0 : RM T0 T W n' hs') : ∃ T', fn_Mo_swapPages 514 p q T = some T' ∧ RM T0 T' (mpV W (exF p q)) n' hs' := by
  have z := hV.z
  have ot : ∀ (x : Int) (T : St), fn_Mo_otherOf x p q T = some (exF p q x) := by
    intro x T
    unfold fn_Mo_otherOf exF
    split
    · rfl
    · split <;> rfl
  obtain ⟨T2, f2, r2⟩ := lp_mapM6 (body := fun go p0 => lb_Mo_swapPages_2 514 p q go p0.1 p0.2) (f := exF p q) hV (exF_b hp hq) h0
    (fun go i T hg hi => by
      show lb_Mo_swapPages_2 514 p q go i T = _
      unfold lb_Mo_swapPages_2
      rw [tg_514_0, hg, if_pos hi])
    (fun go i T h1 h2 hg h6 => by
      left
      show lb_Mo_swapPages_2 514 p q go i T = _
      unfold lb_Mo_swapPages_2
      rw [tg_514_0, hg, if_neg (by omega), h6, bnO_s, ot, bnO_s]
      simp only [nm_x, wr_s (z := i + 1) (by omega) (by omega)])
  obtain ⟨T3, f3, r3⟩ := lp_mapM13 (body := fun go p0 => lb_Mo_swapPages_39 514 p q go p0.1 p0.2) (f := exF p q) hV (exF_b hp hq) r2
    (fun go i T hg hi => by
      show lb_Mo_swapPages_39 514 p q go i T = _
      unfold lb_Mo_swapPages_39
      rw [tg_514_0, hg, if_pos hi])
    (fun go i T h1 h2 hg h6 => by
      left
      show lb_Mo_swapPages_39 514 p q go i T = _
      unfold lb_Mo_swapPages_39
      rw [tg_514_0, hg, if_neg (by omega), h6, bnO_s, ot, bnO_s]
      simp only [nm_x, wr_s (z := i + 1) (by omega) (by omega)])
  have f2' : lo_Mo_swapPages_2 514 p q FU (0, T) = some T2 := f2
  have f3' : lo_Mo_swapPages_39 514 p q FU (0, T2) = some T3 := f3
  refine ⟨T3, ?_, r3⟩
  unfold fn_Mo_swapPages
  rw [f2', bnO_s, f3', bnO_s]
theorem M_flaw (hM : MV S W) (hpq : (1 ≤ p ∧ p ≤ pgs W) ∧ (1 ≤ q ∧ q ≤ pgs W)) : fn_Mo_flawOn 514 p q S = some (if exM W p q = 1000000 then 0 else exM W p q) := by
  have b := hM.b
  have q0 := lp_it (body := fun go p0 => lb_Mo_flawOn_6 514 p q S go p0.1 p0.2) (fun i m => (m, i)) (exS W p q) id (fun i m => 0 ≤ i ∧ (m = 1000000 ∨ (4 ≤ m ∧ m ≤ 6))) (nA W)
    (fun go i m _ hi => by
      show lb_Mo_flawOn_6 514 p q S go m i = _
      unfold lb_Mo_flawOn_6
      rw [tg_514_0, hM.mA, if_pos hi]; rfl)
    (fun go i m hI hi => by
      obtain ⟨h1, hm⟩ := hI
      have v := hM.2.2.1 i h1 hi
      have pv := flR_v (W := W) (a := i)
      refine ⟨?_, by omega, by unfold exS; repeat' split; all_goals omega⟩
      show lb_Mo_flawOn_6 514 p q S go m i = go (exS W p q i m, i + 1)
      have e6 : fn_Mo_ofAd 514 i 6 S = some (at_ W 6 i) := Mo_ofAd hM (k := 6) (by omega) ⟨h1, hi⟩
      have e2 : fn_Mo_ofAd 514 i 2 S = some (at_ W 2 i) := Mo_ofAd hM (k := 2) (by omega) ⟨h1, hi⟩
      have e3 : fn_Mo_ofAd 514 i 3 S = some (at_ W 3 i) := Mo_ofAd hM (k := 3) (by omega) ⟨h1, hi⟩
      have hj : 1 ≤ at_ W 6 i → at_ W 6 i ≤ pgs W → jf_Mo_flawOn_71 514 p q S go m i (at_ W 6 i) = go (if (if onSd (at_ W 6 i) (at_ W 3 i) = true then (if rivl W i (at_ W 6 i / 2) = true then (6 : Int) else 0) else 5) = 0 then m else if (if onSd (at_ W 6 i) (at_ W 3 i) = true then (if rivl W i (at_ W 6 i / 2) = true then (6 : Int) else 0) else 5) < m then (if onSd (at_ W 6 i) (at_ W 3 i) = true then (if rivl W i (at_ W 6 i / 2) = true then (6 : Int) else 0) else 5) else m, i + 1) := by
        intro x1 x2
        unfold jf_Mo_flawOn_71
        rw [e3, bnO_s, Mo_isOnSide (by omega), bnO_s, nm_x, td_n (by omega), wr_s (by omega) (by omega), Mo_hasRival hM ⟨h1, hi⟩, bnO_s]
        simp only [nm_x, wr_s (z := i + 1) (by omega) (by omega)]
        cases onSd (at_ W 6 i) (at_ W 3 i)
        · rw [if_neg Bool.false_ne_true]
          simp only [Bool.false_eq_true, if_false]
          rw [if_neg (by decide : ¬ (5 : Int) = 0)]
          by_cases c : m ≤ 5
          · rw [if_pos c, if_neg (by omega : ¬ (5 : Int) < m)]
          · rw [if_neg c, if_pos (by omega : (5 : Int) < m)]
        · rw [if_pos rfl]
          cases rivl W i (at_ W 6 i / 2)
          · rw [if_neg Bool.false_ne_true, if_pos (by omega : m ≤ 1000000)]; rfl
          · rw [if_pos rfl]
            simp only [if_true]
            rw [if_neg (by decide : ¬ (6 : Int) = 0)]
            by_cases c : m ≤ 6
            · rw [if_pos c, if_neg (by omega : ¬ (6 : Int) < m)]
            · rw [if_neg c, if_pos (by omega : (6 : Int) < m)]
      have hk : 1 ≤ at_ W 6 i → at_ W 6 i ≤ pgs W → (bnO (fn_Mo_ofAd 514 i 2 S) fun p3 => if p3 = 1 then (bnO (fn_Mo_hasColor 514 (at_ W 6 i) S) fun p19 => if p19 = true then (jf_Mo_flawOn_71 514 p q S go m i (at_ W 6 i)) else (if m ≤ 4 then (nm (wr (i + 1)) fun v21 => go (m, v21)) else (nm (wr (i + 1)) fun v22 => go (4, v22)))) else (jf_Mo_flawOn_71 514 p q S go m i (at_ W 6 i))) = go (if flR W i = 0 then m else if flR W i < m then flR W i else m, i + 1) := by
        intro x1 x2
        rw [e2, bnO_s, hj x1 x2, Mo_hasColor hM ⟨x1, x2⟩, bnO_s]
        simp only [nm_x, wr_s (z := i + 1) (by omega) (by omega)]
        unfold flR
        by_cases c1 : at_ W 2 i = 1 ∧ coP W (at_ W 6 i) = false
        · rw [if_pos c1.1, if_neg (by rw [c1.2]; exact Bool.false_ne_true : ¬ coP W (at_ W 6 i) = true)]
          simp only [if_pos c1]
          rw [if_neg (by decide : ¬ (4 : Int) = 0)]
          by_cases c : m ≤ 4
          · rw [if_pos c, if_neg (by omega : ¬ (4 : Int) < m)]
          · rw [if_neg c, if_pos (by omega : (4 : Int) < m)]
        · simp only [if_neg c1]
          by_cases c2 : at_ W 2 i = 1
          · have c3 : coP W (at_ W 6 i) = true := by
              cases e : coP W (at_ W 6 i)
              · exact absurd ⟨c2, e⟩ c1
              · rfl
            rw [if_pos c2, if_pos c3]
          · rw [if_neg c2]
      unfold lb_Mo_flawOn_6
      rw [tg_514_0, hM.mA, if_neg (by omega), e6, bnO_s]
      unfold exS
      by_cases c0 : at_ W 6 i = 0
      · rw [if_pos c0, nm_x, wr_s (by omega) (by omega), if_neg (by omega : ¬ (at_ W 6 i = p ∨ at_ W 6 i = q))]
      · rw [if_neg c0]
        by_cases c1 : at_ W 6 i = p
        · rw [if_pos c1, if_pos (.inl c1 : at_ W 6 i = p ∨ at_ W 6 i = q)]
          exact hk (by omega) (by omega)
        · rw [if_neg c1]
          by_cases c2 : at_ W 6 i = q
          · rw [if_pos c2, if_pos (.inr c2 : at_ W 6 i = p ∨ at_ W 6 i = q)]
            exact hk (by omega) (by omega)
          · rw [if_neg c2, nm_x, wr_s (by omega) (by omega), if_neg (fun z => z.elim c1 c2 : ¬ (at_ W 6 i = p ∨ at_ W 6 i = q))]) (nA W).toNat FU 0 1000000 ⟨Int.le_refl _, .inl rfl⟩ (by omega) (FU_lt (by omega))
  have q2 : lo_Mo_flawOn_6 514 p q S FU (1000000, 0) = some (exM W p q) := by
    unfold exM
    exact q0
  unfold fn_Mo_flawOn
  rw [q2, bnO_s]
  split <;> rfl
theorem M_exReason {T0 : St} {n' : Int} {hs' : Int → Vw} (hG : Good W) (hp : 1 ≤ p ∧ p ≤ pgs W) (hq : 1 ≤ q ∧ q ≤ pgs W) (h0 : RM T0 T W n' hs') : ∃ T', fn_Mo_exchangeReason 514 p q T = some (exR W p q, T') ∧ RM T0 T' W n' hs' := by
  have hM := h0.2.2.1
  have hV2 : Val (mpV W (exF p q)) := Val_mapP hG.1 (exF_b hp hq)
  have ep : pgs (mpV W (exF p q)) = pgs W := mp_pgs
  unfold fn_Mo_exchangeReason exR
  rw [Mo_isPrinted hM hp, bnO_s, Mo_isPrinted hM hq, bnO_s, Mo_storyOn hM, bnO_s, Mo_storyOn hM, bnO_s]
  by_cases c1 : prP W p = true
  · rw [if_pos c1, if_pos (.inl c1 : prP W p = true ∨ prP W q = true)]
    exact ⟨T, rfl, h0⟩
  · rw [if_neg c1]
    by_cases c2 : prP W q = true
    · rw [if_pos c2, if_pos (.inr c2 : prP W p = true ∨ prP W q = true)]
      exact ⟨T, rfl, h0⟩
    · rw [if_neg c2, if_neg (fun z => z.elim c1 c2 : ¬ (prP W p = true ∨ prP W q = true))]
      by_cases c3 : stOn W p (-1) = -1
      · rw [if_pos c3]
        by_cases c4 : stOn W q (-1) = -1
        · rw [if_pos c4, if_neg (by omega : ¬ (stOn W p (-1) ≠ -1 ∨ stOn W q (-1) ≠ -1))]
          obtain ⟨T1, e1, r1⟩ := M_swap hG.1 hp hq h0
          obtain ⟨T2, e2, r2⟩ := M_swap (p := p) (q := q) hV2 (by rw [ep]; exact hp) (by rw [ep]; exact hq) r1
          rw [mpV_inv exF_inv] at r2
          rw [e1, bnO_s, M_flaw r1.2.2.1 (by rw [ep]; exact ⟨hp, hq⟩), bnO_s, e2, bnO_s]
          exact ⟨T2, rfl, r2⟩
        · rw [if_neg c4, if_pos (.inr c4 : stOn W p (-1) ≠ -1 ∨ stOn W q (-1) ≠ -1)]
          exact ⟨T, rfl, h0⟩
      · rw [if_neg c3, if_pos (.inl c3 : stOn W p (-1) ≠ -1 ∨ stOn W q (-1) ≠ -1)]
        exact ⟨T, rfl, h0⟩
/-- a refused call of the reference that wrote and took back -/
theorem finR {n : Int} {hs : Int → Vw} {r : Int} {T' : St} (hP : Parts S W n hs) (hG : Good W) (hH : HGd n hs) (hr : inR r) (hR : RM (ul S 524 0 r) T' W n hs) : Fin T' 0 r :=
  fin2 hP hG hH (CR.mk0 hP) hr hR
theorem exR_b : 0 ≤ exR W p q ∧ exR W p q ≤ 6 := by
  have v := exM_v (W := mpV W (exF p q)) (p := p) (q := q)
  unfold exR
  repeat' split
  all_goals omega
theorem ok_exchange (hI : Inv S) {a y : Int} (hi_a : inR a) (hi_y : inR y) : ∃ e S1 r S2, fn_Law_exchange 0 a y 524 S = some (e, S1) ∧ fn_Mo_exchange 514 a y S1 = some (r, S2) ∧ Fin S2 e r := by
  obtain ⟨W, n, hs, hG, hH, hP⟩ := hI
  have h := hP.1.1
  have b := h.pl.b
  have xb := exR_b (W := W) (p := a) (q := y)
  by_cases c : 1 ≤ a ∧ a ≤ pgs W
  · by_cases c2 : 1 ≤ y ∧ y ≤ pgs W
    · have hF : fn_FP_exchange 0 a y S = (if exR W a y = 0 then bnO (fn_History_keep 63 6 S) (fun p4 => bnO (lo_FP_exchange_45 0 a y (exR W a y) 6 FU (0, p4)) fun p10 => bnO (lo_FP_exchange_94 0 a y (exR W a y) 6 FU (0, p10)) fun p16 => bnO (fn_Plan_recount 5 p16) fun p17 => some (0, exR W a y, p17)) else some (0, exR W a y, S)) := by
        unfold fn_FP_exchange
        rw [F_needPage h, if_pos c, bnO_s, if_pos rfl, F_needPage h, if_pos c2, bnO_s, if_pos rfl, tg_0_3, tg_0_4, tg_5_0, P_exReason h hG c c2, bnO_s]
      have ip : isP W a = true := decide_eq_true c
      have ip2 : isP W y = true := decide_eq_true c2
      have hM : ∀ T, MV T W → fn_Mo_exchange 514 a y T = bnO (fn_Mo_exchangeReason 514 a y (u T 514 4 0)) fun p14 => if p14.1 ≤ 0 then (bnO (fn_Mo_record 514 p14.2) fun p15 => bnO (fn_Mo_swapPages 514 a y p15) fun p16 => some (0, p16)) else (some (p14.1, p14.2)) := by
        intro T hT
        have hM1 : MV (u T 514 4 0) W := hT.thr
        unfold fn_Mo_exchange
        rw [nm_x, Mo_isPage hM1, bnO_s, if_pos ip, Mo_isPage hM1, bnO_s, if_pos ip2, Mo_thr0, bnO_s, if_neg Bool.false_ne_true]
      by_cases d : exR W a y = 0
      · have hG' := Good_exch hG c c2 d
        obtain ⟨S1, e1, c1⟩ := CR.keepG hP
        obtain ⟨S2, e2, o2, v2⟩ := lp_mapC6 (body := fun go p0 => lb_FP_exchange_45 0 a y 0 6 go p0.1 p0.2) (f := exF a y) hG.1 (exF_b c c2) c1.2.1.pl.1.2.1
          (fun go i T hg hi => by
            show lb_FP_exchange_45 0 a y 0 6 go i T = _
            unfold lb_FP_exchange_45
            rw [tg_6_0, hg, if_pos hi])
          (fun go i T h1 h2 hg h6 => by
            left
            show lb_FP_exchange_45 0 a y 0 6 go i T = _
            unfold lb_FP_exchange_45
            rw [tg_6_0, tg_7_6, hg, if_neg (by omega), if_pos (by omega : 0 ≤ i ∧ i < 40), h6, F_exchanged, bnO_s, nm_x, nm_x, wr_s (by omega) (by omega)])
        obtain ⟨S3, e3, o3, v3⟩ := lp_mapC13 (body := fun go p0 => lb_FP_exchange_94 0 a y 0 6 go p0.1 p0.2) (f := exF a y) hG.1 (exF_b c c2) v2
          (fun go i T hg hi => by
            show lb_FP_exchange_94 0 a y 0 6 go i T = _
            unfold lb_FP_exchange_94
            rw [tg_6_2, hg, if_pos hi])
          (fun go i T h1 h2 hg h6 => by
            left
            show lb_FP_exchange_94 0 a y 0 6 go i T = _
            unfold lb_FP_exchange_94
            rw [tg_6_2, tg_21_1, hg, if_neg (by omega), if_pos (by omega : 0 ≤ i ∧ i < 8), h6, F_exchanged, bnO_s, nm_x, nm_x, wr_s (by omega) (by omega)])
        obtain ⟨S4, e4, c4⟩ := c1.mapped v3 ⟨hG'.1, hG'.2.1⟩ (o2.trans o3)
        have m0 := rm_out (r := 0) hP c4
        obtain ⟨T0, f0, r0⟩ := M_exReason hG c c2 (RM.begin m0.1 m0.2)
        obtain ⟨T1, f1, r1⟩ := r0.record hP.2.1.1.1 hH
        obtain ⟨T2, f2, r2⟩ := M_swap hG.1 c c2 r1
        have e2' : lo_FP_exchange_45 0 a y 0 6 FU (0, S1) = some S2 := e2
        have e3' : lo_FP_exchange_94 0 a y 0 6 FU (0, S2) = some S3 := e3
        refine ⟨0, ul S4 524 0 0, 0, T2, ?_, ?_, fin2 hP hG' (hH.push hG) c4 (inRk rfl) r2⟩
        · unfold fn_Law_exchange
          rw [hF, d, if_pos rfl, e1, bnO_s, e2', bnO_s, e3', bnO_s, e4]; rfl
        · rw [hM _ m0.1, f0, bnO_s, d, if_pos (Int.le_refl _), f1, bnO_s, f2, bnO_s]
      · have hv : inR (exR W a y) := ⟨by omega, by omega⟩
        have mo := (hP.out (S' := ul S 524 0 (exR W a y)) (Off.wtl (by omega) (by omega)))
        obtain ⟨T0, f0, r0⟩ := M_exReason hG c c2 (RM.begin mo.1.2 mo.2.1.2)
        refine ⟨0, ul S 524 0 (exR W a y), exR W a y, T0, ?_, ?_, finR hP hG hH hv r0⟩
        · unfold fn_Law_exchange
          rw [hF, if_neg d]; rfl
        · rw [hM _ mo.1.2, f0, bnO_s, if_neg (by omega : ¬ exR W a y ≤ 0)]
    · refine ⟨1, S, 0, u (u S 514 4 0) 514 4 1, ?_, ?_, fin1 hG hH hP (.inl rfl)⟩
      · unfold fn_Law_exchange fn_FP_exchange
        rw [F_needPage h, if_pos c, bnO_s, if_pos rfl, F_needPage h, if_neg c2]; rfl
      · have hM1 : MV (u S 514 4 0) W := hP.1.2.thr
        have eA : fn_Mo_isPage 514 a (u S 514 4 0) = some true := by rw [Mo_isPage hM1]; exact congrArg some (decide_eq_true c)
        have eB : fn_Mo_isPage 514 y (u S 514 4 0) = some false := by rw [Mo_isPage hM1]; exact congrArg some (decide_eq_false c2)
        unfold fn_Mo_exchange
        simp only [nm_x, eA, eB, bnO_s, Mo_thr1, if_true, if_false, Bool.false_eq_true]
  · refine ⟨1, S, 0, u (u S 514 4 0) 514 4 1, ?_, ?_, fin1 hG hH hP (.inl rfl)⟩
    · unfold fn_Law_exchange fn_FP_exchange
      rw [F_needPage h, if_neg c]; rfl
    · have hM1 : MV (u S 514 4 0) W := hP.1.2.thr
      have eA : fn_Mo_isPage 514 a (u S 514 4 0) = some false := by rw [Mo_isPage hM1]; exact congrArg some (decide_eq_false c)
      unfold fn_Mo_exchange
      simp only [nm_x, eA, bnO_s, Mo_thr1, if_true, if_false, Bool.false_eq_true]
end Exch2
