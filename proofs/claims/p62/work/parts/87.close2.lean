/-! closing of forms: the class -/
section Close2
variable {W V : Vw} {S S' : St} {a f p i z s y : Int}
theorem PL_upT (h : PL S 5 W) {j : Nat} (hj : j = 6 ∨ j = 7) (ht : j = 6 → 0 ≤ wr z ∧ wr z ≤ 9999) : PL (u S 6 j z) 5 (up W 17 (j - 1) (wr z)) := by
  have n : N5 W (up W 17 (j - 1) (wr z)) := N5_up17 (by omega)
  have t : 0 ≤ tm (up W 17 (j - 1) (wr z)) ∧ tm (up W 17 (j - 1) (wr z)) ≤ 9999 := by
    rcases hj with rfl | rfl
    · rw [tm_tm]; exact ht rfl
    · rw [tm_lo]; exact h.v.1.2.2.2.2.2
  have ep := N5_pgs n
  have ef : frm (up W 17 (j - 1) (wr z)) = frm W := by unfold frm; rw [n.2.2.2.1]
  have eo : ∀ q, fOf (up W 17 (j - 1) (wr z)) q = fOf W q := fun q => by unfold fOf; rw [n.2.2.2.2]
  refine ⟨⟨.inl rfl, ?_, h.v.eqv up17 n t⟩, ⟨?_, ?_⟩, fun q q1 q2 => ?_⟩
  · have e := vC_uT (S := S) (s := 6) (z := z) hj
    have e6 : vC S 6 = W := h.1.2.1
    rw [e6] at e
    exact e
  · rw [g_ne (by omega), ep]; exact h.gp
  · rw [g_ne (by omega), ef]; exact h.gf
  · rw [ep] at q2
    rw [g_ne (by omega), g_ne (by omega), eo, n.2.2.2.2]
    exact ⟨h.fo q1 q2, h.sO q1 q2⟩
theorem S_unused (h : PL S 5 W) : fn_Standbys_unused 21 y S = some (fsB W y) := by
  have b := h.b
  have e2 : g S 21 2 = nB W := h.mB
  have q := lp_fst (body := fun go p0 => lb_Standbys_unused_2 21 y S go p0) (fun b => decide (at_ W 13 b = 0 ∧ at_ W 12 b = y)) (fun i => i) 0 (nB W)
    (fun go i h => by
      show lb_Standbys_unused_2 21 y S go i = _
      unfold lb_Standbys_unused_2
      rw [e2, if_pos h])
    (fun go i h1 h2 => by
      have e0 : g S 22 i.toNat = at_ W 12 i := h.b0 ⟨h1, h2⟩
      have e1 : g S 23 i.toNat = at_ W 13 i := h.b1 ⟨h1, h2⟩
      show lb_Standbys_unused_2 21 y S go i = _
      unfold lb_Standbys_unused_2
      rw [e2, if_neg (by omega), if_pos (by omega : 0 ≤ i ∧ i < 8), tg_21_1, tg_21_0, e0, e1, nm_x, wr_s (by omega) (by omega)]
      by_cases c : at_ W 13 i = 0
      · by_cases d : at_ W 12 i = y
        · rw [if_pos c, if_pos d, if_pos (decide_eq_true ⟨c, d⟩)]
        · rw [if_pos c, if_neg d, if_neg (by rw [decide_eq_true_eq]; exact fun z => d z.2)]
      · rw [if_neg c, if_neg (by rw [decide_eq_true_eq]; exact fun z => c z.1)]) (n := FU) (Int.le_refl _) (FU_lt (by omega))
  unfold fn_Standbys_unused fsB
  have q2 : lo_Standbys_unused_2 21 y S FU 0 = _ := q
  rw [q2, Int.sub_zero]
  split
  · rename_i c; rw [c]; rfl
  · rfl
theorem P_replace (h : PL S 5 W) (hG : G3 W) (hp : 1 ≤ p ∧ p ≤ pgs W) : ∃ S', fn_Plan_replaceLateAds 5 p S = some S' ∧ Off S S' 6 28 ∧ PL S' 5 (adN W p (nA W)) := by
  have b := h.b
  obtain ⟨S1, e, hI⟩ := lp_inv (body := fun go p0 => lb_Plan_replaceLateAds_10 5 p 7 go p0.1 p0.2) (fun i (s : St) => (i, s)) (fun s => s)
    (fun i s => 0 ≤ i ∧ Off S s 6 28 ∧ PL s 5 (adN W p i)) (nA W)
    (fun go i s hI hi => by
      have e7 : g s 7 7 = nA (adN W p i) := hI.2.2.mA
      rw [adN_sm.1.1] at e7
      show lb_Plan_replaceLateAds_10 5 p 7 go i s = _
      unfold lb_Plan_replaceLateAds_10
      rw [e7, if_pos hi])
    (fun go i s hI hi => by
      have hV := G3_adN hG hp (i := i) ⟨hI.1, by omega⟩
      have sm := adN_sm (W := W) (p := p) (i := i)
      have sp := adN_s (W := W) (p := p) hI.1
      obtain ⟨V, eV⟩ : ∃ V, V = adN W p i := ⟨_, rfl⟩
      have hL := hI.2.2
      rw [← eV] at hV sm hL sp
      rw [sp]
      have ha : 0 ≤ i ∧ i < nA V := ⟨hI.1, by rw [sm.1.1]; exact hi⟩
      have e7 : g s 7 7 = nA W := by rw [← sm.1.1]; exact hL.mA
      have e6 : g s 14 i.toNat = at_ V 6 i := hL.a6 ha
      have e5 : g s 13 i.toNat = at_ V 5 i := hL.a5 ha
      have gA := G3_adS hV ha (by rw [Sm_pgs sm]; exact hp)
      by_cases c1 : at_ V 6 i = p
      · by_cases c2 : laA V i = true
        · obtain ⟨S6, hS6⟩ : ∃ S6, S6 = u s 14 i.toNat 0 := ⟨_, rfl⟩
          have hu := G3_adU hV ha
          have hv6 : G3 (up V 6 i.toNat 0) := hV.step (by decide) (fun hG => Good_take hG (by rw [(N5_up17 (W := V) (z := 0) (by decide : 5 ≤ 5)).1]; exact ha))
          have v6 : vC S6 6 = up V 6 i.toNat 0 := by rw [hS6]; exact K_vA (k := 6) (by decide) hL.1.2.1 ha in0
          have o6 : Off s S6 7 28 := by rw [hS6]; exact Off.wt (by omega) (by omega)
          have hL6 : PL S6 5 (up V 6 i.toNat 0) := hL.upd (by decide) v6 hv6.1 o6
          have l6 : g S6 6 7 = lo_ V := by rw [← lo_up (W := V) (k := 6) (i := i.toNat) (z := 0) (by decide)]; exact hL6.mlo
          have p6 : g S6 12 i.toNat = at_ V 4 i := by
            rw [← at_upn (W := V) (k := 6) (k' := 4) (i := i.toNat) (z := 0) (a := i) (by decide)]
            exact hL6.a4 (by rw [nA_up (by decide)]; exact ha)
          obtain ⟨S7, hS7⟩ : ∃ S7, S7 = u S6 6 7 (lo_ V + at_ V 4 i) := ⟨_, rfl⟩
          have hL7 : PL S7 5 (adU V i) := by rw [hS7]; exact PL_upT hL6 (j := 7) (.inr rfl) (fun z => by omega)
          have oS7 : Off s S7 6 28 := by rw [hS7]; exact (o6.mono (by omega) (by omega)).tu (by omega) (by omega)
          have r7 : g S7 8 i.toNat = at_ V 0 i := by
            have := hL7.a0 (a := i) (by rw [adU_sm.1.1]; exact ha)
            rw [Sm_at adU_sm (by decide) (by decide) (by decide) (by decide)] at this
            exact this
          have la : fn_Plan_isLate 5 (at_ V 5 i) s = some true := by rw [P_isLate hL]; exact congrArg some c2
          by_cases c3 : fsB (adU V i) (at_ V 0 i) = -1
          · have es : adS p i V = adU V i := by unfold adS; rw [if_pos ⟨c1, c2⟩, if_pos c3]
            rw [es]
            refine ⟨S7, ?_, by omega, hI.2.1.trans oS7, hL7⟩
            show lb_Plan_replaceLateAds_10 5 p 7 go i s = go (i + 1, S7)
            unfold lb_Plan_replaceLateAds_10
            rw [e7, if_neg (by omega), if_pos (by omega : 0 ≤ i ∧ i < 40), tg_7_6, e6, if_pos c1, tg_7_5, e5, la, bnO_s, if_pos rfl, nm_x, nm_x, tg_5_0, tg_7_4, ← hS6, l6, p6, ← hS7, tg_6_2, tg_7_0, r7, S_unused hL7, bnO_s, if_pos c3, nm_x, wr_s (z := i + 1) (by omega) (by omega)]
          · obtain ⟨x, hx⟩ : ∃ x, x = fsB (adU V i) (at_ V 0 i) := ⟨_, rfl⟩
            have es : adS p i V = up (adU V i) 13 x.toNat p := by unfold adS; rw [if_pos ⟨c1, c2⟩, if_neg c3, hx]
            have q := (fsB_spec hu.1 (y := at_ V 0 i)).resolve_left c3
            rw [← hx] at q c3
            rw [es] at gA ⊢
            have xb := hu.1.1.2.2.1
            have v8 : vC (u S7 23 x.toNat p) 6 = up (adU V i) 13 x.toNat p := K_vB (k := 13) (by decide) hL7.1.2.1 q.1 ⟨by omega, by omega⟩
            have o8 : Off S7 (u S7 23 x.toNat p) 7 28 := Off.wt (by omega) (by omega)
            refine ⟨u S7 23 x.toNat p, ?_, by omega, (hI.2.1.trans oS7).trans (o8.mono (by omega) (by omega)), hL7.upd (by decide) v8 gA.1 o8⟩
            show lb_Plan_replaceLateAds_10 5 p 7 go i s = go (i + 1, u S7 23 x.toNat p)
            unfold lb_Plan_replaceLateAds_10
            rw [e7, if_neg (by omega), if_pos (by omega : 0 ≤ i ∧ i < 40), tg_7_6, e6, if_pos c1, tg_7_5, e5, la, bnO_s, if_pos rfl, nm_x, nm_x, tg_5_0, tg_7_4, ← hS6, l6, p6, ← hS7, tg_6_2, tg_7_0, r7, S_unused hL7, bnO_s, ← hx, if_neg c3, if_pos (by omega : 0 ≤ x ∧ x < 8), nm_x, nm_x, tg_21_1, wr_s (z := i + 1) (by omega) (by omega)]
        · have es : adS p i V = V := by unfold adS; rw [if_neg (fun z => c2 z.2)]
          rw [es]
          have la : fn_Plan_isLate 5 (at_ V 5 i) s = some false := by rw [P_isLate hL]; exact congrArg some (Bool.eq_false_iff.mpr c2)
          refine ⟨s, ?_, by omega, hI.2.1, hL⟩
          show lb_Plan_replaceLateAds_10 5 p 7 go i s = go (i + 1, s)
          unfold lb_Plan_replaceLateAds_10
          rw [e7, if_neg (by omega), if_pos (by omega : 0 ≤ i ∧ i < 40), tg_7_6, e6, if_pos c1, tg_7_5, e5, la, bnO_s, if_neg Bool.false_ne_true, nm_x, wr_s (z := i + 1) (by omega) (by omega)]
      · have es : adS p i V = V := by unfold adS; rw [if_neg (fun z => c1 z.1)]
        rw [es]
        refine ⟨s, ?_, by omega, hI.2.1, hL⟩
        show lb_Plan_replaceLateAds_10 5 p 7 go i s = go (i + 1, s)
        unfold lb_Plan_replaceLateAds_10
        rw [e7, if_neg (by omega), if_pos (by omega : 0 ≤ i ∧ i < 40), tg_7_6, e6, if_neg c1, nm_x, wr_s (z := i + 1) (by omega) (by omega)])
    (nA W - 0).toNat FU 0 S ⟨Int.le_refl _, Off.refl, h⟩ b.1.1 rfl (FU_lt (by omega))
  refine ⟨S1, ?_, hI.2⟩
  unfold fn_Plan_replaceLateAds
  have e' : lo_Plan_replaceLateAds_10 5 p 7 FU (0, S) = some S1 := e
  rw [tg_5_0, tg_6_0, e', bnO_s]
theorem P_stClose (h : PL S 5 W) (hG : G3 W) (hf : 0 ≤ f) : ∃ S', lo_Plan_closeForm_2 5 f FU (0, S) = some S' ∧ Off S S' 6 28 ∧ PL S' 5 (stN W f (nS W)) := by
  have b := h.b
  obtain ⟨S1, e, hI⟩ := lp_inv (body := fun go p0 => lb_Plan_closeForm_2 5 f go p0.1 p0.2) (fun i (s : St) => (i, s)) (fun s => s)
    (fun i s => 0 ≤ i ∧ Off S s 6 28 ∧ PL s 5 (stN W f i)) (nS W)
    (fun go i s hI hi => by
      have e7 : g s 15 5 = nS (stN W f i) := hI.2.2.mS
      rw [stN_sm.1.2.1] at e7
      show lb_Plan_closeForm_2 5 f go i s = _
      unfold lb_Plan_closeForm_2
      rw [tg_5_0, tg_6_1, e7, if_pos hi])
    (fun go i s hI hi => by
      have hV := G3_stN hG (f := f) (i := i) ⟨hI.1, by omega⟩
      have sm := stN_sm (W := W) (f := f) (i := i)
      have sp := stN_s (W := W) (f := f) hI.1
      obtain ⟨V, eV⟩ : ∃ V, V = stN W f i := ⟨_, rfl⟩
      have hL := hI.2.2
      rw [← eV] at hV sm hL sp
      rw [sp]
      have ha : 0 ≤ i ∧ i < nS V := ⟨hI.1, by rw [sm.1.2.1]; exact hi⟩
      have e7 : g s 15 5 = nS W := by rw [← sm.1.2.1]; exact hL.mS
      have e5 : g s 19 i.toNat = at_ V 10 i := hL.s3 ha
      have gS := G3_stS hV (f := f) ha
      by_cases c1 : laS V i = true
      · have la : fn_Plan_isLate 5 (at_ V 10 i) s = some true := by rw [P_isLate hL]; exact congrArg some c1
        by_cases c2 : hasPg V i f = true
        · have es : stS f i V = up V 11 i.toNat 0 := by unfold stS; rw [c1, c2]; rfl
          rw [es] at gS ⊢
          have v8 : vC (u s 20 i.toNat 0) 6 = up V 11 i.toNat 0 := K_vS (k := 11) (by decide) hL.1.2.1 ha in0
          have o8 : Off s (u s 20 i.toNat 0) 7 28 := Off.wt (by omega) (by omega)
          refine ⟨u s 20 i.toNat 0, ?_, by omega, hI.2.1.trans (o8.mono (by omega) (by omega)), hL.upd (by decide) v8 gS.1 o8⟩
          show lb_Plan_closeForm_2 5 f go i s = go (i + 1, u s 20 i.toNat 0)
          unfold lb_Plan_closeForm_2
          rw [tg_5_0, tg_6_1, e7, if_neg (by omega), if_pos (by omega : 0 ≤ i ∧ i < 10), tg_15_3, e5, la, bnO_s, if_pos rfl, P_storyIsOn hL ha hf, bnO_s, if_pos c2, nm_x, nm_x, tg_15_4, wr_s (z := i + 1) (by omega) (by omega)]
        · have es : stS f i V = V := by unfold stS; rw [Bool.eq_false_iff.mpr c2, Bool.and_false, if_neg Bool.false_ne_true]
          rw [es]
          refine ⟨s, ?_, by omega, hI.2.1, hL⟩
          show lb_Plan_closeForm_2 5 f go i s = go (i + 1, s)
          unfold lb_Plan_closeForm_2
          rw [tg_5_0, tg_6_1, e7, if_neg (by omega), if_pos (by omega : 0 ≤ i ∧ i < 10), tg_15_3, e5, la, bnO_s, if_pos rfl, P_storyIsOn hL ha hf, bnO_s, if_neg c2, nm_x, wr_s (z := i + 1) (by omega) (by omega)]
      · have la : fn_Plan_isLate 5 (at_ V 10 i) s = some false := by rw [P_isLate hL]; exact congrArg some (Bool.eq_false_iff.mpr c1)
        have es : stS f i V = V := by unfold stS; rw [Bool.eq_false_iff.mpr c1, Bool.false_and, if_neg Bool.false_ne_true]
        rw [es]
        refine ⟨s, ?_, by omega, hI.2.1, hL⟩
        show lb_Plan_closeForm_2 5 f go i s = go (i + 1, s)
        unfold lb_Plan_closeForm_2
        rw [tg_5_0, tg_6_1, e7, if_neg (by omega), if_pos (by omega : 0 ≤ i ∧ i < 10), tg_15_3, e5, la, bnO_s, if_neg Bool.false_ne_true, nm_x, wr_s (z := i + 1) (by omega) (by omega)])
    (nS W - 0).toNat FU 0 S ⟨Int.le_refl _, Off.refl, h⟩ b.2.1.1 rfl (FU_lt (by omega))
  exact ⟨S1, e, hI.2⟩
theorem P_pgClose (h : PL S 5 W) (hG : G3 W) : ∃ S', lo_Plan_closeForm_65 5 f FU (1, S) = some S' ∧ Off S S' 6 28 ∧ PL S' 5 (pgN W f (pgs W + 1)) := by
  have b := h.b
  obtain ⟨S1, e, hI⟩ := lp_inv (body := fun go p0 => lb_Plan_closeForm_65 5 f go p0.1 p0.2) (fun i (s : St) => (i, s)) (fun s => s)
    (fun i s => 1 ≤ i ∧ Off S s 6 28 ∧ PL s 5 (pgN W f i)) (pgs W + 1)
    (fun go i s hI hi => by
      have e7 := hI.2.2.gp
      rw [Sm_pgs pgN_sm] at e7
      show lb_Plan_closeForm_65 5 f go i s = _
      unfold lb_Plan_closeForm_65
      rw [e7, if_pos (by omega)])
    (fun go i s hI hi => by
      have hV := G3_pgN hG (f := f) (i := i) ⟨hI.1, by omega⟩
      have sm := pgN_sm (W := W) (f := f) (i := i)
      have sp := pgN_s (W := W) (f := f) hI.1
      obtain ⟨V, eV⟩ : ∃ V, V = pgN W f i := ⟨_, rfl⟩
      have hL := hI.2.2
      rw [← eV] at hV sm hL sp
      rw [sp]
      have hp : 1 ≤ i ∧ i ≤ pgs V := ⟨hI.1, by rw [Sm_pgs sm]; omega⟩
      have e7 : g s 5 1 = pgs W := by rw [← Sm_pgs sm]; exact hL.gp
      have e8 : g s 28 i.toNat = fOf V i := hL.fo hp.1 hp.2
      by_cases c : fOf V i = f
      · have es : pgS f i V = adN V i (nA V) := by unfold pgS; rw [if_pos c]
        obtain ⟨S2, e2, o2, l2⟩ := P_replace hL hV hp
        rw [es]
        refine ⟨S2, ?_, by omega, hI.2.1.trans o2, l2⟩
        show lb_Plan_closeForm_65 5 f go i s = go (i + 1, S2)
        unfold lb_Plan_closeForm_65
        rw [e7, if_neg (by omega), if_pos (by omega : 0 ≤ i ∧ i < 65), tg_5_3, e8, if_pos c, e2, bnO_s, nm_x, wr_s (z := i + 1) (by omega) (by omega)]
      · have es : pgS f i V = V := by unfold pgS; rw [if_neg c]
        rw [es]
        refine ⟨s, ?_, by omega, hI.2.1, hL⟩
        show lb_Plan_closeForm_65 5 f go i s = go (i + 1, s)
        unfold lb_Plan_closeForm_65
        rw [e7, if_neg (by omega), if_pos (by omega : 0 ≤ i ∧ i < 65), tg_5_3, e8, if_neg c, nm_x, wr_s (z := i + 1) (by omega) (by omega)])
    (pgs W + 1 - 1).toNat FU 1 S ⟨Int.le_refl _, Off.refl, by
      have e0 : pgN W f 1 = W := rfl
      rw [e0]; exact h⟩ (by omega) rfl (FU_lt (by omega))
  exact ⟨S1, e, hI.2⟩
theorem P_close (h : PL S 5 W) (hG : G3 W) (hf : 0 ≤ f ∧ f < frm W) : ∃ S', fn_Plan_closeForm 5 f S = some S' ∧ Off S S' 6 33 ∧ PT S' 5 (clW f W) := by
  have b := h.b
  have fb := frm_b h.v
  obtain ⟨S1, e1, o1, l1⟩ := P_stClose h hG hf.1
  have g1 := G3_stN hG (f := f) (i := nS W) ⟨b.2.1.1, Int.le_refl _⟩
  have s1 := stN_sm (W := W) (f := f) (i := nS W)
  obtain ⟨S2, e2, o2, l2⟩ := P_pgClose (f := f) l1 g1
  rw [Sm_pgs s1] at l2
  have g3 := G3_clW hG hf
  have n3 := clW_n (W := W) (f := f)
  obtain ⟨V, eV⟩ : ∃ V, V = pgN (stN W f (nS W)) f (pgs W + 1) := ⟨_, rfl⟩
  have sV : Sm W V := by rw [eV]; exact s1.tr pgN_sm
  rw [← eV] at l2
  have ec : clW f W = up V 15 f.toNat 1 := by unfold clW; rw [eV]
  rw [ec] at g3 ⊢
  have hfV : 0 ≤ f ∧ f < frm V := ⟨hf.1, by unfold frm; rw [sV.1.2.2.2.1]; exact hf.2⟩
  have v3 : vC (u S2 26 f.toNat 1) 6 = up V 15 f.toNat 1 := K_vF (k := 15) (by decide) l2.1.2.1 hfV in1 (fun z => by omega)
  have o3 : Off S2 (u S2 26 f.toNat 1) 7 28 := Off.wt (by omega) (by omega)
  have l3 : PL (u S2 26 f.toNat 1) 5 (up V 15 f.toNat 1) := l2.upd (by decide) v3 g3.1 o3
  obtain ⟨S4, e4, o4, l4⟩ := P_recount l3 g3.2.1
  refine ⟨S4, ?_, (((o1.trans o2).mono (by omega) (by omega)).trans (o3.mono (by omega) (by omega))).trans (o4.mono (by omega) (by omega)), l4⟩
  unfold fn_Plan_closeForm
  rw [e1, bnO_s, e2, bnO_s, if_pos (by omega : 0 ≤ f ∧ f < 8), nm_x, tg_5_0, tg_6_3, tg_24_1, e4, bnO_s]
end Close2

