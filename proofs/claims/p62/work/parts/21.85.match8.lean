/-! matching: the two answers -/
section Match8
variable {W : Vw} {M : Int → Bool} {T T0 T' S : St} {n : Int} {hs : Int → Vw}
theorem adj_or {a q : Int} : adjW W a q = true ↔ reas W a q = 0 ∨ reas W a q = 6 := decide_eq_true_iff
theorem M_fitRow (hM : MV T W) {a : Int} (ha : 0 ≤ a ∧ a < nA W) : ∃ T', lo_Mo_matching_42 514 a FU (1, T) = some T' ∧ Off T T' 521 522 ∧ (∀ q : Int, 1 ≤ q → q ≤ pgs W → g T' 521 (65 * a + q).toNat = bi (adjW W a q)) ∧ ∀ f : Nat, (f : Int) < 65 * a → g T' 521 f = g T 521 f := by
  have b := hM.2.pg
  have bA := hM.2.1.1
  obtain ⟨T1, f1, hI⟩ := lp_inv (body := fun go p0 => lb_Mo_matching_42 514 a go p0.1 p0.2) (fun i (s : St) => (i, s)) (fun s => s)
    (fun i s => 1 ≤ i ∧ Off T s 521 522 ∧ (∀ q : Int, 1 ≤ q → q < i → g s 521 (65 * a + q).toNat = bi (adjW W a q)) ∧ ∀ f : Nat, (f : Int) < 65 * a → g s 521 f = g T 521 f) (pgs W + 1)
    (fun go i s h hi => by
      have hM' : MV s W := hM.o6 (h.2.1.mono (by omega) (by omega))
      show lb_Mo_matching_42 514 a go i s = _
      unfold lb_Mo_matching_42
      rw [Mo_pageMany hM', bnO_s, if_pos (by omega)])
    (fun go i s h hi => by
      have hM' : MV s W := hM.o6 (h.2.1.mono (by omega) (by omega))
      refine ⟨u s 521 (65 * a + i).toNat (bi (adjW W a i)), ?_, by omega, h.2.1.tu (by omega) (by omega), fun q q1 q2 => ?_, fun f hf => ?_⟩
      · show lb_Mo_matching_42 514 a go i s = _
        unfold lb_Mo_matching_42
        rw [Mo_pageMany hM', bnO_s, if_neg (by omega), Mo_reasonOf hM' ha, bnO_s]
        by_cases c1 : reas W a i = 0
        · have e : adjW W a i = true := adj_or.mpr (.inl c1)
          rw [if_pos c1, if_pos (by omega : 0 ≤ 65 * a + i ∧ 65 * a + i < 2600), nm_x, nm_x, tg_514_10, i_nz1, e, wr_s (z := i + 1) (by omega) (by omega)]
          rfl
        · rw [if_neg c1, bnO_s]
          by_cases c2 : reas W a i = 6
          · have e : adjW W a i = true := adj_or.mpr (.inr c2)
            rw [if_pos c2, if_pos (by omega : 0 ≤ 65 * a + i ∧ 65 * a + i < 2600), nm_x, nm_x, tg_514_10, i_nz1, e, wr_s (z := i + 1) (by omega) (by omega)]
            rfl
          · have e : adjW W a i = false := decide_eq_false (fun z => z.elim c1 c2)
            rw [if_neg c2, if_pos (by omega : 0 ≤ 65 * a + i ∧ 65 * a + i < 2600), nm_x, nm_x, tg_514_10, i_nz0, e, wr_s (z := i + 1) (by omega) (by omega)]
            rfl
      · by_cases z : q = i
        · rw [z, g_eq]; exact wr_s (by cases adjW W a i <;> decide) (by cases adjW W a i <;> decide)
        · rw [g_ne (by omega)]; exact h.2.2.1 q q1 (by omega)
      · rw [g_ne (by omega)]; exact h.2.2.2 f hf)
    (pgs W + 1 - 1).toNat FU 1 T ⟨Int.le_refl _, Off.refl, fun q q1 q2 => by omega, fun _ _ => rfl⟩ (by omega) rfl (FU_lt (by omega))
  exact ⟨T1, f1, hI.2.1, fun q q1 q2 => hI.2.2.1 q q1 (by omega), hI.2.2.2⟩
theorem M_fits (hM : MV T W) : ∃ T', lo_Mo_matching_30 514 FU (0, T) = some T' ∧ Off T T' 521 522 ∧ FitR W T' := by
  have b := hM.2.pg
  have bA := hM.2.1.1
  obtain ⟨T1, f1, hI⟩ := lp_inv (body := fun go p0 => lb_Mo_matching_30 514 go p0.1 p0.2) (fun i (s : St) => (i, s)) (fun s => s)
    (fun i s => 0 ≤ i ∧ Off T s 521 522 ∧ ∀ a q : Int, 0 ≤ a → a < i → 1 ≤ q → q ≤ pgs W → g s 521 (65 * a + q).toNat = bi (adjW W a q)) (nA W)
    (fun go i s h hi => by
      have hM' : MV s W := hM.o6 (h.2.1.mono (by omega) (by omega))
      show lb_Mo_matching_30 514 go i s = _
      unfold lb_Mo_matching_30
      rw [tg_514_0, hM'.mA, if_pos hi])
    (fun go i s h hi => by
      have hM' : MV s W := hM.o6 (h.2.1.mono (by omega) (by omega))
      obtain ⟨s', e, o, r1, r2⟩ := M_fitRow hM' ⟨h.1, hi⟩
      refine ⟨s', ?_, by omega, h.2.1.trans o, fun a q a1 a2 q1 q2 => ?_⟩
      · show lb_Mo_matching_30 514 go i s = _
        unfold lb_Mo_matching_30
        rw [tg_514_0, hM'.mA, if_neg (by omega), e, bnO_s, nm_x, wr_s (z := i + 1) (by omega) (by omega)]
      · by_cases z : a = i
        · rw [z]; exact r1 q q1 q2
        · rw [r2 _ (by omega)]; exact h.2.2 a q a1 (by omega) q1 q2)
    (nA W - 0).toNat FU 0 T ⟨Int.le_refl _, Off.refl, fun a q a1 a2 => by omega⟩ bA.1 rfl (FU_lt (by omega))
  exact ⟨T1, f1, hI.2.1, hI.2.2⟩
theorem M_matched {jn : (Int → Bool) → Int → Bool} (hj : JnW W jn) (hM : MV T W) : ∃ T1 T2 T', lo_Mo_matching_7 514 FU (1, T) = some T1 ∧ lo_Mo_matching_30 514 FU (0, T1) = some T2 ∧ lo_Mo_matching_102 514 FU (0, 0, T2) = some ((mtN W jn (nA W)).1, T') ∧ Off T T' 518 522 := by
  have b := hM.2.pg
  have bA := hM.2.1.1
  obtain ⟨T1, f1, hI1⟩ := lp_inv (body := fun go p0 => lb_Mo_matching_7 514 go p0.1 p0.2) (fun i (s : St) => (i, s)) (fun s => s)
    (fun i s => 1 ≤ i ∧ Off T s 518 519 ∧ ∀ q : Int, 1 ≤ q → q < i → g s 518 q.toNat = -1) (pgs W + 1)
    (fun go i s h hi => by
      have hM' : MV s W := hM.o6 (h.2.1.mono (by omega) (by omega))
      show lb_Mo_matching_7 514 go i s = _
      unfold lb_Mo_matching_7
      rw [Mo_pageMany hM', bnO_s, if_pos (by omega)])
    (fun go i s h hi => by
      have hM' : MV s W := hM.o6 (h.2.1.mono (by omega) (by omega))
      refine ⟨u s 518 i.toNat (-1), ?_, by omega, h.2.1.tu (by omega) (by omega), fun q q1 q2 => ?_⟩
      · show lb_Mo_matching_7 514 go i s = _
        unfold lb_Mo_matching_7
        rw [Mo_pageMany hM', bnO_s, if_neg (by omega), if_pos (by omega : 0 ≤ i ∧ i < 65), nm_x, nm_x, tg_514_7, wr_s (z := i + 1) (by omega) (by omega)]
      · by_cases z : q = i
        · rw [z, g_eq]; exact wr_s (by decide) (by decide)
        · rw [g_ne (by omega)]; exact h.2.2 q q1 (by omega))
    (pgs W + 1 - 1).toNat FU 1 T ⟨Int.le_refl _, Off.refl, fun q q1 q2 => by omega⟩ (by omega) rfl (FU_lt (by omega))
  have hM1 : MV T1 W := hM.o6 (hI1.2.1.mono (by omega) (by omega))
  obtain ⟨T2, f2, o2, r2⟩ := M_fits hM1
  have hM2 : MV T2 W := hM1.o6 (o2.mono (by omega) (by omega))
  have oS : Off T T2 518 522 := (hI1.2.1.mono (by omega) (by omega)).trans (o2.mono (by omega) (by omega))
  have hG0 : MG W (fun _ => false) T2 := by
    have e8 : ∀ q : Int, 1 ≤ q → q ≤ pgs W → g T2 518 q.toNat = -1 := fun q q1 q2 => by rw [o2.rd (by omega)]; exact hI1.2.2 q q1 (by omega)
    refine ⟨hM2, r2, fun p p1 p2 => .inl (e8 p p1 p2), fun p p' p1 p2 p3 p4 _ ne => absurd (e8 p p1 p2) ne, fun a a1 a2 a3 => absurd a3 Bool.false_ne_true⟩
  obtain ⟨⟨c, T3⟩, e, hI⟩ := lp_inv (body := fun go p0 => lb_Mo_matching_102 514 go p0.1 p0.2.1 p0.2.2) (fun i (s : Int × St) => (s.1, i, s.2)) (fun s => s)
    (fun i s => 0 ≤ i ∧ s.1 = (mtN W jn i).1 ∧ Off T s.2 518 522 ∧ MG W (mtN W jn i).2 s.2) (nA W)
    (fun go i s h hi => by
      show lb_Mo_matching_102 514 go s.1 i s.2 = _
      unfold lb_Mo_matching_102
      rw [tg_514_0, h.2.2.2.1.mA, if_pos hi])
    (fun go i s h hi => by
      have hM' := h.2.2.2.1
      have e0 : fn_Mo_ofAd 514 i 0 s.2 = some (at_ W 0 i) := Mo_ofAd hM' (k := 0) (by omega) ⟨h.1, hi⟩
      have e6 : fn_Mo_ofAd 514 i 6 s.2 = some (at_ W 6 i) := Mo_ofAd hM' (k := 6) (by omega) ⟨h.1, hi⟩
      have sp := mtN_s (W := W) (jn := jn) h.1
      have mi := mtN_i (W := W) (jn := jn) h.1
      rw [sp]
      by_cases c1 : at_ W 0 i = 4
      · by_cases c2 : at_ W 6 i = 0
        · obtain ⟨T', t1, t2, t3⟩ := M_joins hj h.2.2.2 (mi.2 i (Int.le_refl _)) ⟨h.1, hi⟩
          cases ej : jn (mtN W jn i).2 i with
          | true =>
            have es : mtS W jn i (mtN W jn i) = ((mtN W jn i).1 + 1, fun x => (mtN W jn i).2 x || decide (x = i)) := by unfold mtS; rw [decide_eq_true ⟨c1, c2⟩, ej]; rfl
            rw [es]
            rw [ej] at t1
            rw [ej, if_pos rfl] at t3
            refine ⟨(s.1 + 1, T'), ?_, by omega, by rw [h.2.1], h.2.2.1.trans (t2.mono (by omega) (by omega)), t3⟩
            show lb_Mo_matching_102 514 go s.1 i s.2 = go (s.1 + 1, i + 1, T')
            unfold lb_Mo_matching_102
            rw [tg_514_0, hM'.mA, if_neg (by omega), e0, bnO_s, if_pos c1, e6, bnO_s, if_pos c2, t1, bnO_s, if_pos rfl, nm_x, nm_x, wr_s (z := s.1 + 1) (by omega) (by omega), wr_s (z := i + 1) (by omega) (by omega)]
          | false =>
            have es : mtS W jn i (mtN W jn i) = mtN W jn i := by unfold mtS; rw [ej, Bool.and_false, if_neg Bool.false_ne_true]
            rw [es]
            rw [ej] at t1
            rw [ej, if_neg Bool.false_ne_true] at t3
            refine ⟨(s.1, T'), ?_, by omega, h.2.1, h.2.2.1.trans (t2.mono (by omega) (by omega)), t3⟩
            show lb_Mo_matching_102 514 go s.1 i s.2 = go (s.1, i + 1, T')
            unfold lb_Mo_matching_102
            rw [tg_514_0, hM'.mA, if_neg (by omega), e0, bnO_s, if_pos c1, e6, bnO_s, if_pos c2, t1, bnO_s, if_neg Bool.false_ne_true, nm_x, nm_x, Int.add_zero, wr_s (z := s.1) (by omega) (by omega), wr_s (z := i + 1) (by omega) (by omega)]
        · have es : mtS W jn i (mtN W jn i) = mtN W jn i := by unfold mtS; rw [decide_eq_false (fun z => c2 z.2), Bool.false_and, if_neg Bool.false_ne_true]
          rw [es]
          refine ⟨s, ?_, by omega, h.2⟩
          show lb_Mo_matching_102 514 go s.1 i s.2 = go (s.1, i + 1, s.2)
          unfold lb_Mo_matching_102
          rw [tg_514_0, hM'.mA, if_neg (by omega), e0, bnO_s, if_pos c1, e6, bnO_s, if_neg c2, nm_x, wr_s (z := i + 1) (by omega) (by omega)]
      · have es : mtS W jn i (mtN W jn i) = mtN W jn i := by unfold mtS; rw [decide_eq_false (fun z => c1 z.1), Bool.false_and, if_neg Bool.false_ne_true]
        rw [es]
        refine ⟨s, ?_, by omega, h.2⟩
        show lb_Mo_matching_102 514 go s.1 i s.2 = go (s.1, i + 1, s.2)
        unfold lb_Mo_matching_102
        rw [tg_514_0, hM'.mA, if_neg (by omega), e0, bnO_s, if_neg c1, nm_x, wr_s (z := i + 1) (by omega) (by omega)])
    (nA W - 0).toNat FU 0 (0, T2) ⟨Int.le_refl _, rfl, oS, hG0⟩ bA.1 rfl (FU_lt (by omega))
  have hc : c = (mtN W jn (nA W)).1 := hI.2.1
  refine ⟨T1, T2, T3, f1, f2, ?_, hI.2.2.1⟩
  rw [← hc]
  exact e
theorem ok_matching (hI : Inv S) : ∃ r S1 S2, fn_FP_matching 0 S = some (r, S1) ∧ fn_Mo_matching 514 S1 = some (r, S2) ∧ Inv S2 := by
  obtain ⟨W, n, hs, hG, hH, hP⟩ := hI
  obtain ⟨jn, hj⟩ := JnW.ex (W := W)
  obtain ⟨S1, e1, o1⟩ := S_matched hj hP.1.1
  have oc : OC S S1 := o1.oc (by omega)
  have rb := RM.begin (oc.mv hP.1.2) (oc.mo hP.2.1.2)
  obtain ⟨T1, T2, T3, f1, f2, f3, o⟩ := M_matched hj rb.2.2.1
  have r := rb.o6 (o.mono (by omega) (by omega))
  refine ⟨(mtN W jn (nA W)).1, S1, T3, ?_, ?_, Inv.step hP hG hH oc (hP.1.1.off o1 (by omega)) (hP.2.1.1.off o1 (by omega)) (S1' := S1) Off.refl r.1 r.2.2.1 r.2.2.2⟩
  · unfold fn_FP_matching
    rw [tg_0_2, e1, bnO_s]
  · unfold fn_Mo_matching
    rw [nm_x, f1, bnO_s, f2, bnO_s, f3, bnO_s]
end Match8
