/-! PAGES CLEARED, PAGES EXCHANGED -/
def clF (p x : Int) : Int := if x = p then 0 else x
theorem sumR_le {w w' : Int → Int} : ∀ {n : Nat} {i : Int}, (∀ j, i ≤ j → j < i + n → w j ≤ w' j) → sumR w i n ≤ sumR w' i n
  | 0, _, _ => Int.le_refl _
  | n + 1, i, h => by
    show w i + sumR w (i + 1) n ≤ w' i + sumR w' (i + 1) n
    have q := sumR_le (n := n) (i := i + 1) (fun j h1 h2 => h j (by omega) (by omega))
    have q0 := h i (by omega) (by omega)
    omega
section Clear
variable {S T : St} {W : Vw}
theorem Good_clear (hG : Good W) {p : Int} (hp : 1 ≤ p) : Good (mpV W (clF p)) := by
  obtain ⟨hV, hW, hF, hD⟩ := hG
  obtain ⟨n1, n2, n3, n4, n5, n6⟩ := mp_n (W := W) (f := clF p) (m := nA W) (n := nB W)
  have n1 : nA (mpV W (clF p)) = nA W := n1
  have n2 : nS (mpV W (clF p)) = nS W := n2
  have n3 : nB (mpV W (clF p)) = nB W := n3
  have n4 : sg (mpV W (clF p)) = sg W := n4
  have n5 : pe (mpV W (clF p)) = pe W := n5
  have n6 : tm (mpV W (clF p)) = tm W := n6
  have ep : pgs (mpV W (clF p)) = pgs W := mp_pgs
  have z := hV.z
  have o : ∀ (k : Nat) (a : Int), k ≠ 6 → k ≠ 13 → at_ (mpV W (clF p)) k a = at_ W k a := fun k a h1 h2 => mp_ao h1 h2 a
  have cf : ∀ x, clF p x = 0 ∨ clF p x = x := fun x => by unfold clF; split <;> simp
  have hV' : Val (mpV W (clF p)) := Val_mapP hV (fun x h1 h2 => by rcases cf x with e | e <;> rw [e] <;> omega)
  have ec : ∀ t q, cov (mpV W (clF p)) t q = cov W t q := fun t q => by unfold cov; rw [o 11 t (by decide) (by decide), o 7 t (by decide) (by decide)]
  refine ⟨hV', ⟨fun q q1 q2 => ?_, fun t t1 t2 q qc => ?_⟩, fun a a1 a2 a3 => ?_, fun f f1 f2 f3 => ?_⟩
  · rw [ep] at q2
    have r := hW.1 q q1 q2
    unfold rawR sumA sumB at r ⊢
    rw [n1, n3]
    have e1 := sumR_le (w := fun a => -szA W q (-1) a) (w' := fun a => -szA (mpV W (clF p)) q (-1) a) (n := (nA W).toNat) (i := 0) (fun j h1 h2 => by
      have v := hV.2.1 j h1 (by omega)
      unfold szA
      rw [mpV_6 ⟨h1, by omega⟩, o 0 j (by decide) (by decide)]
      by_cases c : j ≠ -1 ∧ clF p (at_ W 6 j) = q
      · rw [if_pos c, if_pos ⟨c.1, by rcases cf (at_ W 6 j) with e | e <;> omega⟩]; omega
      · rw [if_neg c]; split <;> omega)
    have e2 := sumR_le (w := fun a => -szB W q (-1) a) (w' := fun a => -szB (mpV W (clF p)) q (-1) a) (n := (nB W).toNat) (i := 0) (fun j h1 h2 => by
      have v := hV.2.2.2.1 j h1 (by omega)
      unfold szB
      rw [mpV_13 ⟨h1, by omega⟩, o 12 j (by decide) (by decide)]
      by_cases c : j ≠ -1 ∧ clF p (at_ W 13 j) = q
      · rw [if_pos c, if_pos ⟨c.1, by rcases cf (at_ W 13 j) with e | e <;> omega⟩]; omega
      · rw [if_neg c]; split <;> omega)
    omega
  · rw [n2] at t2
    rw [ec] at qc
    have w := hW.2 t t1 t2 q qc
    have cc := of_decide_eq_true qc
    refine ⟨fun a a1 a2 => ?_, fun b b1 b2 => ?_, fun t' u1 u2 u3 => ?_⟩
    · rw [n1] at a2
      rw [mpV_6 ⟨a1, a2⟩]
      have := w.1 a a1 a2
      rcases cf (at_ W 6 a) with e | e <;> omega
    · rw [n3] at b2
      rw [mpV_13 ⟨b1, b2⟩]
      have := w.2.1 b b1 b2
      rcases cf (at_ W 13 b) with e | e <;> omega
    · rw [n2] at u2
      rw [ec]; exact w.2.2 t' u1 u2 u3
  · rw [n1] at a2
    rw [mpV_6 ⟨a1, a2⟩] at a3 ⊢
    have e6 : clF p (at_ W 6 a) = at_ W 6 a := by rcases cf (at_ W 6 a) with e | e <;> omega
    rw [e6] at a3 ⊢
    rw [o 2 a (by decide) (by decide), o 3 a (by decide) (by decide)]
    have q := hF a a1 a2 a3
    refine ⟨fun e => ?_, q.2.1, rivl_no ?_⟩
    · have q1 := q.1 e
      unfold coP fOf at q1 ⊢
      rw [n5, o 14 _ (by decide) (by decide)]; exact q1
    · rintro ⟨g1, x, x1, x2, x3, x4, x5, x6⟩
      rw [n1] at x2
      rw [o 1 a (by decide) (by decide)] at g1 x6
      rw [o 1 x (by decide) (by decide)] at x6
      rw [mpV_6 ⟨x1, x2⟩] at x4 x5
      have e6x : clF p (at_ W 6 x) = at_ W 6 x := by rcases cf (at_ W 6 x) with e | e <;> omega
      rw [e6x] at x4 x5
      have := rivl_iff.mpr (⟨g1, x, x1, x2, x3, x4, x5, x6⟩ : at_ W 1 a ≠ 0 ∧ _)
      rw [q.2.2] at this; cases this
  · have ef : frm (mpV W (clF p)) = frm W := by unfold frm; rw [n4]
    rw [ef] at f2
    rw [o 15 f (by decide) (by decide)] at f3
    rw [o 16 f (by decide) (by decide), n6]
    exact hD f f1 f2 f3
theorem clF_b (hV : Val W) {p : Int} : ∀ x, 0 ≤ x → x ≤ pgs W → 0 ≤ clF p x ∧ clF p x ≤ pgs W := by
  intro x h1 h2
  unfold clF
  split <;> omega
theorem ok_clear (hI : Inv S) {a : Int} (hi_a : inR a) : ∃ e S1 r S2, fn_Law_clear 0 a 524 S = some (e, S1) ∧ fn_Mo_clear 514 a S1 = some (r, S2) ∧ Fin S2 e r := by
  obtain ⟨W, n, hs, hG, hH, hP⟩ := hI
  have h := hP.1.1
  have b := h.pl.b
  by_cases c : 1 ≤ a ∧ a ≤ pgs W
  · have e7 : g S 7 7 = nA W := h.pl.mA
    have e21 : g S 21 2 = nB W := h.pl.mB
    obtain ⟨v, hv⟩ : ∃ v, v = wr (adsO W a + stbO W a) := ⟨_, rfl⟩
    have hvi : inR v := by rw [hv]; exact wr_in _
    have hF : fn_FP_clear 0 a S = (if v = 0 ∨ prP W a = true then some (0, -4, S) else bnO (fn_History_keep 63 6 S) fun p7 => bnO (lo_FP_clear_80 0 a 6 v FU (0, p7)) fun p14 => bnO (lo_FP_clear_126 0 a 6 v FU (0, p14)) fun p21 => bnO (fn_Plan_recount 5 p21) fun p22 => some (0, v, p22)) := by
      unfold fn_FP_clear
      rw [F_needPage h, if_pos c, bnO_s, if_pos rfl, tg_0_3, tg_0_4, tg_5_0, tg_6_0, tg_6_2, tg_7_6, tg_21_1, e7, e21, F_adsO h, bnO_s, F_stbO h, bnO_s, nm_x, ← hv, P_isPrinted1 h.pl c.1 c.2, bnO_s]
      by_cases d : v = 0
      · rw [if_pos d, if_pos (.inl d : v = 0 ∨ prP W a = true)]
      · rw [if_neg d]
        by_cases d2 : prP W a = true
        · rw [if_pos d2, if_pos (.inr d2 : v = 0 ∨ prP W a = true)]
        · rw [if_neg d2, if_neg (fun z => z.elim d d2 : ¬ (v = 0 ∨ prP W a = true))]
    have hM : ∀ T, MV T W → fn_Mo_clear 514 a T = (if v = 0 ∨ prP W a = true then some (-4, u T 514 4 0) else bnO (fn_Mo_record 514 (u T 514 4 0)) fun p11 => bnO (lo_Mo_clear_61 514 a v FU (0, p11)) fun p18 => bnO (lo_Mo_clear_98 514 a v FU (0, p18)) fun p25 => some (v, p25)) := by
      intro T hT
      have hM1 : MV (u T 514 4 0) W := hT.thr
      have ip : isP W a = true := decide_eq_true c
      unfold fn_Mo_clear
      rw [nm_x, Mo_isPage hM1, bnO_s, if_pos ip, Mo_thr0, bnO_s, if_neg Bool.false_ne_true, Mo_adsOn hM1, bnO_s, Mo_standbysOn hM1, bnO_s, nm_x, ← hv, Mo_isPrinted hM1 c, bnO_s]
      by_cases d2 : prP W a = true
      · rw [if_pos d2, if_pos (.inr d2 : v = 0 ∨ prP W a = true)]
      · rw [if_neg d2]
        by_cases d : v = 0
        · rw [if_pos d, if_pos (.inl d : v = 0 ∨ prP W a = true)]
        · rw [if_neg d, if_neg (fun z => z.elim d d2 : ¬ (v = 0 ∨ prP W a = true))]
    by_cases d : v = 0 ∨ prP W a = true
    · refine ⟨0, ul S 524 0 (-4), -4, u (ul S 524 0 (-4)) 514 4 0, ?_, by rw [hM _ (hP.out (Off.wtl (by omega) (by omega))).1.2, if_pos d], fin0 hG hH hP (inRk rfl)⟩
      unfold fn_Law_clear
      rw [hF, if_pos d]; rfl
    · have hG' := Good_clear hG c.1
      obtain ⟨S1, e1, c1⟩ := CR.keepG hP
      obtain ⟨S2, e2, o2, v2⟩ := lp_mapC6 (body := fun go p0 => lb_FP_clear_80 0 a 6 v go p0.1 p0.2) (f := clF a) hG.1 (clF_b hG.1) c1.2.1.pl.1.2.1
        (fun go i T hg hi => by
          show lb_FP_clear_80 0 a 6 v go i T = _
          unfold lb_FP_clear_80
          rw [tg_6_0, hg, if_pos hi])
        (fun go i T h1 h2 hg h6 => by
          have e : lb_FP_clear_80 0 a 6 v go i T = if at_ W 6 i = a then go (i + 1, u T 14 i.toNat 0) else go (i + 1, T) := by
            unfold lb_FP_clear_80
            rw [tg_6_0, tg_7_6, hg, if_neg (by omega), if_pos (by omega : 0 ≤ i ∧ i < 40), h6, nm_x, nm_x, nm_x, wr_s (by omega) (by omega)]
          by_cases q : at_ W 6 i = a
          · left
            show lb_FP_clear_80 0 a 6 v go i T = _
            rw [e, if_pos q]
            unfold clF
            rw [if_pos q]
          · right
            refine ⟨by unfold clF; rw [if_neg q], ?_⟩
            show lb_FP_clear_80 0 a 6 v go i T = _
            rw [e, if_neg q])
      obtain ⟨S3, e3, o3, v3⟩ := lp_mapC13 (body := fun go p0 => lb_FP_clear_126 0 a 6 v go p0.1 p0.2) (f := clF a) hG.1 (clF_b hG.1) v2
        (fun go i T hg hi => by
          show lb_FP_clear_126 0 a 6 v go i T = _
          unfold lb_FP_clear_126
          rw [tg_6_2, hg, if_pos hi])
        (fun go i T h1 h2 hg h6 => by
          have e : lb_FP_clear_126 0 a 6 v go i T = if at_ W 13 i = a then go (i + 1, u T 23 i.toNat 0) else go (i + 1, T) := by
            unfold lb_FP_clear_126
            rw [tg_6_2, tg_21_1, hg, if_neg (by omega), if_pos (by omega : 0 ≤ i ∧ i < 8), h6, nm_x, nm_x, nm_x, wr_s (by omega) (by omega)]
          by_cases q : at_ W 13 i = a
          · left
            show lb_FP_clear_126 0 a 6 v go i T = _
            rw [e, if_pos q]
            unfold clF
            rw [if_pos q]
          · right
            refine ⟨by unfold clF; rw [if_neg q], ?_⟩
            show lb_FP_clear_126 0 a 6 v go i T = _
            rw [e, if_neg q])
      obtain ⟨S4, e4, c4⟩ := c1.mapped v3 ⟨hG'.1, hG'.2.1⟩ (o2.trans o3)
      have m0 := rm_out (r := v) hP c4
      obtain ⟨T1, f1, r1⟩ := (RM.begin m0.1 m0.2).record hP.2.1.1.1 hH
      obtain ⟨T2, f2, r2⟩ := lp_mapM6 (body := fun go p0 => lb_Mo_clear_61 514 a v go p0.1 p0.2) (f := clF a) hG.1 (clF_b hG.1) r1
        (fun go i T hg hi => by
          show lb_Mo_clear_61 514 a v go i T = _
          unfold lb_Mo_clear_61
          rw [tg_514_0, hg, if_pos hi])
        (fun go i T h1 h2 hg h6 => by
          have e : lb_Mo_clear_61 514 a v go i T = if at_ W 6 i = a then (bnO (fn_Mo_setOfAd 514 i 6 0 T) fun T'' => go (i + 1, T'')) else go (i + 1, T) := by
            unfold lb_Mo_clear_61
            rw [tg_514_0, hg, if_neg (by omega), h6, bnO_s]
            simp only [nm_x, wr_s (z := i + 1) (by omega) (by omega)]
          by_cases q : at_ W 6 i = a
          · left
            show lb_Mo_clear_61 514 a v go i T = _
            rw [e, if_pos q]
            unfold clF
            rw [if_pos q]
          · right
            refine ⟨by unfold clF; rw [if_neg q], ?_⟩
            show lb_Mo_clear_61 514 a v go i T = _
            rw [e, if_neg q])
      obtain ⟨T3, f3, r3⟩ := lp_mapM13 (body := fun go p0 => lb_Mo_clear_98 514 a v go p0.1 p0.2) (f := clF a) hG.1 (clF_b hG.1) r2
        (fun go i T hg hi => by
          show lb_Mo_clear_98 514 a v go i T = _
          unfold lb_Mo_clear_98
          rw [tg_514_0, hg, if_pos hi])
        (fun go i T h1 h2 hg h6 => by
          have e : lb_Mo_clear_98 514 a v go i T = if at_ W 13 i = a then (bnO (fn_Mo_setStandby 514 i 0 T) fun T'' => go (i + 1, T'')) else go (i + 1, T) := by
            unfold lb_Mo_clear_98
            rw [tg_514_0, hg, if_neg (by omega), h6, bnO_s]
            simp only [nm_x, wr_s (z := i + 1) (by omega) (by omega)]
          by_cases q : at_ W 13 i = a
          · left
            show lb_Mo_clear_98 514 a v go i T = _
            rw [e, if_pos q]
            unfold clF
            rw [if_pos q]
          · right
            refine ⟨by unfold clF; rw [if_neg q], ?_⟩
            show lb_Mo_clear_98 514 a v go i T = _
            rw [e, if_neg q])
      have e2' : lo_FP_clear_80 0 a 6 v FU (0, S1) = some S2 := e2
      have e3' : lo_FP_clear_126 0 a 6 v FU (0, S2) = some S3 := e3
      have f2' : lo_Mo_clear_61 514 a v FU (0, T1) = some T2 := f2
      have f3' : lo_Mo_clear_98 514 a v FU (0, T2) = some T3 := f3
      refine ⟨0, ul S4 524 0 v, v, T3, ?_, ?_, fin2 hP hG' (hH.push hG) c4 hvi r3⟩
      · unfold fn_Law_clear
        rw [hF, if_neg d, e1, bnO_s, e2', bnO_s, e3', bnO_s, e4]; rfl
      · rw [hM _ m0.1, if_neg d, f1, bnO_s, f2', bnO_s, f3', bnO_s]
  · refine ⟨1, S, 0, u (u S 514 4 0) 514 4 1, ?_, ?_, fin1 hG hH hP (.inl rfl)⟩
    · unfold fn_Law_clear fn_FP_clear
      rw [F_needPage h, if_neg c]; rfl
    · have hM1 : MV (u S 514 4 0) W := hP.1.2.thr
      have eA : fn_Mo_isPage 514 a (u S 514 4 0) = some false := by rw [Mo_isPage hM1]; exact congrArg some (decide_eq_false c)
      unfold fn_Mo_clear
      simp only [nm_x, eA, bnO_s, Mo_thr1, if_true, if_false, Bool.false_eq_true]
end Clear
