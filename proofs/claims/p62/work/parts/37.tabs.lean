/-! THE TABLES -/
def Tab (S : St) (p : Nat) (W : Vw) : Prop := (∀ q : Int, 1 ≤ q → q ≤ pgs W → g S (p + 25) q.toNat = lf W q ∧ g S (p + 26) q.toNat = stOn W q (-1)) ∧ (∀ y s : Int, 0 ≤ y → y ≤ 9 → 0 ≤ s → s ≤ 32 → g S (p + 27) (y * 33 + s).toNat = grp W y s)
def PT (S : St) (p : Nat) (W : Vw) : Prop := PL S p W ∧ Tab S p W ∧ Wf W
theorem lp_ex {β : Type} {body : (Int → Option (β ⊕ Unit)) → Int → Option (β ⊕ Unit)} (p : Int → Bool) (r : β) (lo B : Int)
    (hx : ∀ go i, B ≤ i → body go i = some (.inr ())) (hs : ∀ go i, lo ≤ i → i < B → body go i = if p i = true then some (.inl r) else go (i + 1)) {n : Nat} (h0 : 0 ≤ lo) (hn : (B - lo).toNat < n) :
    lp body n lo = if anyR p lo (B - lo).toNat = true then some (.inl r) else some (.inr ()) := by
  rw [lp_fst p (fun _ => r) lo B hx hs h0 hn]
  by_cases c : fstR p lo (B - lo).toNat = -1
  · rw [if_pos c, (fstR_any h0).mp c, if_neg (by decide)]
  · rw [if_neg c, if_pos (by
      cases e : anyR p lo (B - lo).toNat
      · exact absurd ((fstR_any h0).mpr e) c
      · rfl)]
section PlanTabs
variable {S : St} {p : Nat} {W : Vw}
theorem PT.l (h : PT S p W) {q : Int} (h1 : 1 ≤ q) (h2 : q ≤ pgs W) : g S (p + 25) q.toNat = lf W q := (h.2.1.1 q h1 h2).1
theorem PT.s (h : PT S p W) {q : Int} (h1 : 1 ≤ q) (h2 : q ≤ pgs W) : g S (p + 26) q.toNat = stOn W q (-1) := (h.2.1.1 q h1 h2).2
theorem PT.gr (h : PT S p W) {y s : Int} (h1 : 0 ≤ y ∧ y ≤ 9) (h2 : 0 ≤ s ∧ s ≤ 32) : g S (p + 27) (y * 33 + s).toNat = grp W y s := h.2.1.2 y s h1.1 h1.2 h2.1 h2.2
theorem PT.pl (h : PT S p W) : PL S p W := h.1
theorem PT.w (h : PT S p W) : Wf W := h.2.2
theorem PT.v (h : PT S p W) : Val W := h.1.v
theorem PT.off {S' : St} {lo hi : Nat} (h : PT S p W) (ho : Off S S' lo hi) (hs : hi ≤ p ∨ p + 28 ≤ lo) : PT S' p W := by
  refine ⟨h.1.off ho (by omega), ⟨fun q h1 h2 => ⟨?_, ?_⟩, fun y s h1 h2 h3 h4 => ?_⟩, h.2.2⟩
  · rw [ho.rd (by omega)]; exact h.l h1 h2
  · rw [ho.rd (by omega)]; exact h.s h1 h2
  · rw [ho.rd (by omega)]; exact h.gr ⟨h1, h2⟩ ⟨h3, h4⟩
theorem P_roomFor (h : PT S p W) {a q : Int} (ha : 0 ≤ a ∧ a < nA W) (h1 : 1 ≤ q) (h2 : q ≤ pgs W) : fn_Plan_roomFor p a q S = some (lefO W q a (-1)) := by
  have b := h.pl.b
  have hq := h.pl.q
  have l := lf_bd h.v h.w h1 h2
  have v := (h.v.2.1 a ha.1 ha.2).1
  unfold fn_Plan_roomFor
  rw [if_pos (by omega), if_pos (by omega)]
  simp only [tq_0 hq, tq_A hq, tq_A0 hq, tq_A6 hq, tq_5 hq, h.pl.a6 ha, h.pl.a0 ha, h.l h1 h2]
  rw [lefO_but h.v h.w ha]
  split
  · rw [wr_s (by omega) (by omega)]
  · rw [wr_s (by omega) (by omega)]
theorem P_meetsRival (h : PT S p W) {a s : Int} (ha : 0 ≤ a ∧ a < nA W) (hs : 0 ≤ s ∧ s ≤ 32) : fn_Plan_meetsRival p a s S = some (rivl W a s) := by
  have b := h.pl.b
  have hq := h.pl.q
  have v := h.v.2.1 a ha.1 ha.2
  have gc := (grp_cnt h.v (y := at_ W 1 a) (s := s)).2
  rw [rivl_cnt h.v ha]
  unfold fn_Plan_meetsRival
  rw [if_pos (by omega)]
  simp only [tq_0 hq, tq_A hq, tq_A1 hq, tq_A6 hq, tq_7 hq, h.pl.a6 ha, h.pl.a1 ha, h.gr v.2.1 hs, nm_x, td_n (a := at_ W 6 a) (b := 2) (by omega), wr_s (z := at_ W 6 a / 2) (by omega) (by omega)]
  by_cases c1 : at_ W 6 a = 0
  · rw [if_pos c1, if_neg (fun z : at_ W 6 a ≠ 0 ∧ _ => z.1 c1)]
    by_cases c2 : at_ W 1 a = 0
    · rw [if_pos c2, decide_eq_false (fun z => z c2), Bool.false_and]
    · rw [if_neg c2, decide_eq_true c2, Bool.true_and, if_pos (by omega)]
      split
      · rw [decide_eq_false (by omega)]
      · rw [decide_eq_true (by omega)]
  · rw [if_neg c1]
    by_cases c3 : at_ W 6 a / 2 = s
    · rw [if_pos c3, if_pos (⟨c1, c3⟩ : at_ W 6 a ≠ 0 ∧ _)]
      by_cases c2 : at_ W 1 a = 0
      · rw [if_pos c2, decide_eq_false (fun z => z c2), Bool.false_and]
      · rw [if_neg c2, decide_eq_true c2, Bool.true_and, if_pos (by omega)]
        split
        · rw [decide_eq_false (by omega)]
        · rw [decide_eq_true (by omega)]
    · rw [if_neg c3, if_neg (fun z : at_ W 6 a ≠ 0 ∧ _ => c3 z.2)]
      by_cases c2 : at_ W 1 a = 0
      · rw [if_pos c2, decide_eq_false (fun z => z c2), Bool.false_and]
      · rw [if_neg c2, decide_eq_true c2, Bool.true_and, if_pos (by omega)]
        split
        · rw [decide_eq_false (by omega)]
        · rw [decide_eq_true (by omega)]
theorem P_adReason (h : PT S p W) {a q : Int} (ha : 0 ≤ a ∧ a < nA W) : fn_Plan_adReason p a q S = some (reas W a q) := by
  have b := h.pl.b
  have hq := h.pl.q
  have v := h.v.2.1 a ha.1 ha.2
  unfold fn_Plan_adReason reas
  rw [P_hasPage h.pl, bnO_s]
  by_cases c0 : isP W q = true
  · rw [if_pos c0, if_pos c0]
    have c0' := isP_b c0
    rw [P_isPrinted1 h.pl c0'.1 c0'.2, bnO_s, P_roomFor h ha c0'.1 c0'.2, bnO_s]
    by_cases c1 : prP W q = true
    · rw [if_pos c1, if_pos c1]
    · rw [if_neg c1, if_neg c1, if_pos (by omega)]
      simp only [tq_0 hq, tq_A hq, tq_A0 hq, tq_A2 hq, tq_A3 hq, h.pl.a0 ha, h.pl.a2 ha, h.pl.a3 ha]
      rw [P_lacksColor h.pl c0'.1 c0'.2, bnO_s, P_isWrongSide v.2.2.2.1 (by omega) (by omega), bnO_s, nm_x, td_n (by omega), wr_s (by omega) (by omega), P_meetsRival h ha (by omega), bnO_s]
      by_cases c2 : at_ W 0 a ≤ lefO W q a (-1)
      · rw [if_pos c2, if_neg (c := lefO W q a (-1) < at_ W 0 a) (by omega)]
        by_cases c3 : at_ W 2 a = 1 ∧ coP W q = false
        · rw [if_pos c3, decide_eq_true c3.1, c3.2]; rfl
        · rw [if_neg c3, if_neg (by
            rw [Bool.and_eq_true, decide_eq_true_eq, Bool.not_eq_true']; exact c3)]
          cases onSd q (at_ W 3 a) <;> cases rivl W a (q / 2) <;> rfl
      · rw [if_neg c2, if_pos (c := lefO W q a (-1) < at_ W 0 a) (by omega)]
  · rw [if_neg c0, if_neg c0]
def pgR (W : Vw) (s q : Int) : Int := if prP W q = true then 2 else if stOn W q s ≠ -1 ∨ room W q (-1) (-1) < 4 then 3 else if at_ W 8 s = 1 ∧ coP W q = false then 4 else 0
theorem P_pageReason (h : PT S p W) {s q : Int} (hs : 0 ≤ s ∧ s < nS W) (h1 : 1 ≤ q) (h2 : q ≤ pgs W) : fn_Plan_pageReason p s q S = some (pgR W s q) := by
  have b := h.pl.b
  have hq := h.pl.q
  unfold fn_Plan_pageReason pgR
  rw [P_isPrinted1 h.pl h1 h2, bnO_s]
  by_cases c1 : prP W q = true
  · rw [if_pos c1, if_pos c1]
  · rw [if_neg c1, if_neg c1, if_pos (by omega)]
    simp only [tq_0 hq, tq_S hq, tq_S1 hq, tq_5 hq, tq_6 hq, h.pl.s1 hs, h.l h1 h2, h.s h1 h2]
    rw [P_lacksColor h.pl h1 h2, bnO_s]
    have eC : (if (decide (at_ W 8 s = 1) && !coP W q) = true then some (4 : Int) else some 0) = some (if at_ W 8 s = 1 ∧ coP W q = false then 4 else 0) := by
      by_cases c3 : at_ W 8 s = 1 ∧ coP W q = false
      · rw [if_pos c3, decide_eq_true c3.1, c3.2]; rfl
      · rw [if_neg c3, if_neg (by rw [Bool.and_eq_true, decide_eq_true_eq, Bool.not_eq_true']; exact c3)]
    rw [eC]
    generalize (if at_ W 8 s = 1 ∧ coP W q = false then (4 : Int) else 0) = X
    have so := stOn_but h.v h.w (s := s) (p := q)
    rcases stOn_spec h.v (p := q) (but := -1) with ⟨g1, g2⟩ | ⟨g1, g2, g3, g4⟩
    · have el : lf W q = room W q (-1) (-1) := by unfold lf lefO; rw [if_pos g1]
      have e1 : stOn W q s = -1 := by rw [so, g1]; split <;> rfl
      rw [el, g1, e1]
      by_cases c4 : 4 ≤ room W q (-1) (-1)
      · rw [if_pos c4, if_pos (by omega : 0 ≤ s ∧ s < 10), if_neg (by omega : ¬ ((-1 : Int) ≠ -1 ∨ room W q (-1) (-1) < 4))]
      · rw [if_neg c4, if_neg (by omega : ¬ (-1 : Int) = s), if_pos (.inr (by omega) : (-1 : Int) ≠ -1 ∨ room W q (-1) (-1) < 4)]
    · have el : lf W q = 0 := by unfold lf lefO; rw [if_neg g3]
      rw [el, if_neg (by decide : ¬ (4 : Int) ≤ 0)]
      by_cases c4 : stOn W q (-1) = s
      · have er : room W q (-1) (-1) = 4 := by rw [room_raw h.v]; exact raw_story h.w hs (by rw [← c4]; exact g4)
        rw [if_pos c4] at so
        rw [if_pos c4, if_pos (by omega : 0 ≤ s ∧ s < 10), er, so, if_neg (by omega : ¬ ((-1 : Int) ≠ -1 ∨ (4 : Int) < 4))]
      · rw [if_neg c4] at so
        rw [if_neg c4, so, if_pos (.inl g3 : stOn W q (-1) ≠ -1 ∨ room W q (-1) (-1) < 4)]
theorem pgR_v {s q : Int} : pgR W s q = 0 ∨ (2 ≤ pgR W s q ∧ pgR W s q ≤ 4) := by
  unfold pgR
  repeat' split
  all_goals omega
def mnS (W : Vw) (s q i m : Int) : Int := if pgR W s (q + i) = 0 then m else if pgR W s (q + i) < m then pgR W s (q + i) else m
def mnR (W : Vw) (s q : Int) (n : Nat) : Int := itR (mnS W s q) 0 n 1000000
def layR (W : Vw) (s q : Int) : Int := if isP W q = true ∧ q + at_ W 7 s - 1 ≤ pgs W then (if mnR W s q (at_ W 7 s).toNat < 1000000 then mnR W s q (at_ W 7 s).toNat else if onSd q (at_ W 9 s) = true then 0 else 5) else 1
theorem mnR_v {s q : Int} {n : Nat} : mnR W s q n = 1000000 ∨ (2 ≤ mnR W s q n ∧ mnR W s q n ≤ 4) := by
  refine itR_inv (I := fun _ m => m = 1000000 ∨ (2 ≤ m ∧ m ≤ 4)) (fun j m _ _ h => ?_) (.inl rfl)
  have v := pgR_v (W := W) (s := s) (q := q + j)
  unfold mnS
  repeat' split
  all_goals omega
theorem lowR_v {bs m x : Int} (hb : bs = 0 ∨ bs = 5) (hm : m = 1000000 ∨ (2 ≤ m ∧ m ≤ 4)) (hx : x = 0 ∨ (2 ≤ x ∧ x ≤ 4)) : fn_Plan_lowerReason (if m = 1000000 then bs else m) x S = some (if (if x = 0 then m else if x < m then x else m) = 1000000 then bs else (if x = 0 then m else if x < m then x else m)) := by
  have e : ∀ z : Int, 0 ≤ z → z ≤ 9 → wr z = z := fun z h1 h2 => wr_s (by omega) (by omega)
  obtain ⟨a, ha⟩ : ∃ a, a = (if m = 1000000 then bs else m) := ⟨_, rfl⟩
  have hb' : (a = bs ∧ m = 1000000) ∨ (a = m ∧ m ≠ 1000000) := by
    rw [ha]
    by_cases c : m = 1000000
    · rw [if_pos c]; exact .inl ⟨rfl, c⟩
    · rw [if_neg c]; exact .inr ⟨rfl, c⟩
  rw [← ha]
  unfold fn_Plan_lowerReason
  by_cases a0 : a = 0
  · rw [if_pos a0, e _ (by omega) (by omega)]
    congr 1
    repeat' split
    all_goals omega
  · rw [if_neg a0]
    by_cases x0 : x = 0
    · rw [if_pos x0, e _ (by omega) (by omega)]
      congr 1
      repeat' split
      all_goals omega
    · rw [if_neg x0]
      unfold i_min
      congr 1
      repeat' split
      all_goals omega
theorem P_layLoop (h : PT S p W) {s q : Int} (hs : 0 ≤ s ∧ s < nS W) (h1 : 1 ≤ q) (h2 : q + at_ W 7 s - 1 ≤ pgs W) {bs : Int} (hb : bs = 0 ∨ bs = 5) : lo_Plan_layReason_69 p s q (at_ W 7 s) S FU (bs, 0) = some (if mnR W s q (at_ W 7 s).toNat = 1000000 then bs else mnR W s q (at_ W 7 s).toNat) := by
  have b := h.pl.b
  have v := (h.v.2.2.1 s hs.1 hs.2).1
  have q := lp_it (body := fun go p0 => lb_Plan_layReason_69 p s q (at_ W 7 s) S go p0.1 p0.2) (fun i m => (if m = 1000000 then bs else m, i)) (mnS W s q) (fun m => if m = 1000000 then bs else m) (fun i m => 0 ≤ i ∧ (m = 1000000 ∨ (2 ≤ m ∧ m ≤ 4))) (at_ W 7 s)
    (fun go i m _ hi => by
      show lb_Plan_layReason_69 p s q (at_ W 7 s) S go _ i = _
      unfold lb_Plan_layReason_69
      rw [if_pos hi])
    (fun go i m hI hi => by
      have pv := pgR_v (W := W) (s := s) (q := q + i)
      refine ⟨?_, by omega, ?_⟩
      · show lb_Plan_layReason_69 p s q (at_ W 7 s) S go _ i = _
        unfold lb_Plan_layReason_69
        rw [if_neg (by omega), nm_x, wr_s (z := q + i) (by omega) (by omega), P_pageReason h hs (by omega) (by omega), bnO_s, lowR_v hb hI.2 pv, bnO_s, nm_x, wr_s (z := i + 1) (by omega) (by omega)]
        rfl
      · unfold mnS
        obtain ⟨hI0, hI⟩ := hI
        repeat' split
        all_goals omega) (at_ W 7 s).toNat FU 0 1000000 ⟨Int.le_refl _, .inl rfl⟩ (by omega) (FU_lt (by omega))
  rw [if_pos rfl] at q
  exact q
theorem P_layReason (h : PT S p W) {s q : Int} (hs : 0 ≤ s ∧ s < nS W) (hin : inR q) : fn_Plan_layReason p s q S = some (layR W s q) := by
  have b := h.pl.b
  have hq := h.pl.q
  have v := h.v.2.2.1 s hs.1 hs.2
  have z := h.v.z
  have m := mnR_v (W := W) (s := s) (q := q) (n := (at_ W 7 s).toNat)
  unfold fn_Plan_layReason layR
  rw [if_pos (by omega)]
  simp only [tq_0 hq, tq_S hq, tq_S0 hq, tq_S2 hq, h.pl.s0 hs, h.pl.s2 hs, h.pl.gp]
  by_cases c1 : q < 1
  · rw [if_pos c1, if_neg (fun z => by have := isP_b z.1; omega)]
  · rw [if_neg c1]
    by_cases c2 : pgs W < q
    · rw [if_pos c2, if_neg (fun z => by have := isP_b z.1; omega)]
    · rw [if_neg c2, nm_x, wr_s (by omega) (by omega)]
      by_cases c3 : q + at_ W 7 s - 1 ≤ pgs W
      · have ip : isP W q = true := decide_eq_true (by omega)
        rw [if_pos c3, if_pos (⟨ip, c3⟩ : isP W q = true ∧ q + at_ W 7 s - 1 ≤ pgs W), P_isWrongSide v.2.2.1 (by omega) (by omega), bnO_s, P_layLoop h hs (by omega) c3 (.inl rfl), bnO_s, P_layLoop h hs (by omega) c3 (.inr rfl), bnO_s]
        generalize mnR W s q (at_ W 7 s).toNat = x at m
        by_cases c4 : x = 1000000
        · subst c4
          cases onSd q (at_ W 9 s) <;> rfl
        · have c5 : x < 1000000 := by omega
          rw [if_neg c4, if_neg c4, if_pos c5]
          cases onSd q (at_ W 9 s) <;> rfl
      · rw [if_neg c3, if_neg (fun z => c3 z.2)]
end PlanTabs
section PlanForms
variable {S : St} {p : Nat} {W : Vw}
theorem P_storyIsOn (h : PL S p W) {s f : Int} (hs : 0 ≤ s ∧ s < nS W) (hf : 0 ≤ f) : fn_Plan_storyIsOn p s f S = some (hasPg W s f) := by
  have b := h.b
  have hq := h.q
  have v := h.v.2.2.1 s hs.1 hs.2
  unfold fn_Plan_storyIsOn
  simp only [tq_0 hq, tq_S hq, tq_S4 hq, h.s4 hs]
  rw [if_pos (by omega)]
  have key : anyR (fun i => decide (at_ W 11 s ≠ 0) && decide (fOf W (at_ W 11 s + i) = f)) 0 (at_ W 7 s).toNat = hasPg W s f := by
    refine anyR_congr2 ?_
    constructor
    · rintro ⟨j, h1, h2, h3⟩
      rw [Bool.and_eq_true, decide_eq_true_eq, decide_eq_true_eq] at h3
      refine ⟨at_ W 11 s + j, by omega, by omega, ?_⟩
      rw [Bool.and_eq_true, decide_eq_true_eq]
      exact ⟨decide_eq_true (by omega), h3.2⟩
    · rintro ⟨j, h1, h2, h3⟩
      rw [Bool.and_eq_true, decide_eq_true_eq] at h3
      have c := of_decide_eq_true h3.1
      refine ⟨j - at_ W 11 s, by omega, by omega, ?_⟩
      rw [Bool.and_eq_true, decide_eq_true_eq, decide_eq_true_eq]
      exact ⟨by omega, by rw [show at_ W 11 s + (j - at_ W 11 s) = j by omega]; exact h3.2⟩
  have q := lp_ex (body := fun go p0 => lb_Plan_storyIsOn_16 p s f (at_ W 11 s) S go p0) (fun i => decide (at_ W 11 s ≠ 0) && decide (fOf W (at_ W 11 s + i) = f)) true 0 (if at_ W 11 s = 0 then 0 else at_ W 7 s)
    (fun go i hi => by
      show lb_Plan_storyIsOn_16 p s f (at_ W 11 s) S go i = _
      unfold lb_Plan_storyIsOn_16
      by_cases c : at_ W 11 s = 0
      · rw [if_pos c]
      · rw [if_neg c] at hi
        rw [if_neg c, if_pos (by omega)]
        simp only [tq_0 hq, tq_S hq, tq_S0 hq, h.s0 hs]
        rw [if_pos hi])
    (fun go i h1 hi => by
      show lb_Plan_storyIsOn_16 p s f (at_ W 11 s) S go i = _
      by_cases c : at_ W 11 s = 0
      · rw [if_pos c] at hi; omega
      · rw [if_neg c] at hi
        unfold lb_Plan_storyIsOn_16
        simp only [tq_0 hq, tq_S hq, tq_S0 hq, h.s0 hs]
        rw [if_neg c, if_pos (by omega), if_neg (by omega), nm_x, wr_s (by omega) (by omega), P_formAt h, bnO_s, show isP W (at_ W 11 s + i) = true from decide_eq_true (by omega), if_pos rfl, nm_x, wr_s (by omega) (by omega), decide_eq_true c, Bool.true_and]
        by_cases c2 : fOf W (at_ W 11 s + i) = f
        · rw [if_pos c2, if_pos (decide_eq_true c2)]
        · rw [if_neg c2, if_neg (by rw [decide_eq_true_eq]; exact c2)]) (n := FU) (Int.le_refl _) (FU_lt (by split <;> omega))
  have q2 : lo_Plan_storyIsOn_16 p s f (at_ W 11 s) S FU 0 = _ := q
  rw [q2, ← key]
  by_cases c : at_ W 11 s = 0
  · have e0 : anyR (fun i => decide (at_ W 11 s ≠ 0) && decide (fOf W (at_ W 11 s + i) = f)) 0 (at_ W 7 s).toNat = false := by
      cases e : anyR (fun i => decide (at_ W 11 s ≠ 0) && decide (fOf W (at_ W 11 s + i) = f)) 0 (at_ W 7 s).toNat
      · rfl
      · obtain ⟨j, _, _, h3⟩ := anyR_iff.mp e
        rw [Bool.and_eq_true, decide_eq_true_eq] at h3
        exact absurd c h3.1
    rw [e0, if_pos c]
    rfl
  · rw [if_neg c, Int.sub_zero]
    cases anyR (fun i => decide (at_ W 11 s ≠ 0) && decide (fOf W (at_ W 11 s + i) = f)) 0 (at_ W 7 s).toNat <;> rfl
theorem P_storyThat (h : PL S p W) {s e : Int} (hs : 0 ≤ s ∧ s < nS W) : fn_Plan_storyIsOnFormThat p s e S = some (anyP W (fun q => cov W s q && decide (at_ W 15 (fOf W q) = e))) := by
  have b := h.b
  have hq := h.q
  have fb := frm_b h.v
  unfold fn_Plan_storyIsOnFormThat
  have q := lp_ex (body := fun go p0 => lb_Plan_storyIsOnFormThat_2 p s e S go p0) (fun f => decide (at_ W 15 f = e) && hasPg W s f) true 0 (frm W)
    (fun go i hi => by
      show lb_Plan_storyIsOnFormThat_2 p s e S go i = _
      unfold lb_Plan_storyIsOnFormThat_2
      rw [h.gf, if_pos hi])
    (fun go i h1 hi => by
      show lb_Plan_storyIsOnFormThat_2 p s e S go i = _
      unfold lb_Plan_storyIsOnFormThat_2
      simp only [tq_0 hq, tq_F hq, tq_F1 hq, h.f1 ⟨h1, hi⟩, h.gf, nm_x, P_storyIsOn h hs h1, bnO_s, wr_s (z := i + 1) (by omega) (by omega)]
      rw [if_neg (by omega), if_pos (by omega)]
      by_cases c2 : at_ W 15 i = e
      · rw [if_pos c2, decide_eq_true c2, Bool.true_and]
      · rw [if_neg c2, decide_eq_false c2, Bool.false_and, if_neg (by decide)]) (n := FU) (Int.le_refl _) (FU_lt (by omega))
  have q2 : lo_Plan_storyIsOnFormThat_2 p s e S FU 0 = _ := q
  have key : anyR (fun f => decide (at_ W 15 f = e) && hasPg W s f) 0 (frm W).toNat = anyP W (fun q => cov W s q && decide (at_ W 15 (fOf W q) = e)) := by
    refine anyR_congr2 ?_
    constructor
    · rintro ⟨f, h1, h2, h3⟩
      rw [Bool.and_eq_true, decide_eq_true_eq] at h3
      obtain ⟨q, g1, g2, g3⟩ := anyR_iff.mp h3.2
      rw [Bool.and_eq_true, decide_eq_true_eq] at g3
      refine ⟨q, g1, g2, ?_⟩
      rw [Bool.and_eq_true, decide_eq_true_eq]
      exact ⟨g3.1, by rw [g3.2]; exact h3.1⟩
    · rintro ⟨q, g1, g2, g3⟩
      rw [Bool.and_eq_true, decide_eq_true_eq] at g3
      have fo := fOf_b h.v (p := q) g1 (by omega)
      refine ⟨fOf W q, fo.1, by omega, ?_⟩
      rw [Bool.and_eq_true, decide_eq_true_eq]
      refine ⟨g3.2, anyR_iff.mpr ⟨q, g1, g2, ?_⟩⟩
      rw [Bool.and_eq_true, decide_eq_true_eq]
      exact ⟨g3.1, rfl⟩
  rw [q2, Int.sub_zero, key]
  cases anyP W (fun q => cov W s q && decide (at_ W 15 (fOf W q) = e)) <;> rfl
theorem P_storyIsPrinted (h : PL S p W) {s : Int} (hs : 0 ≤ s ∧ s < nS W) : fn_Plan_storyIsPrinted p s S = some (stPr W s) := by
  unfold fn_Plan_storyIsPrinted
  rw [P_storyThat h hs, bnO_s]
  rfl
theorem P_storyIsOpen (h : PL S p W) {s : Int} (hs : 0 ≤ s ∧ s < nS W) : fn_Plan_storyIsOpen p s S = some (stOp W s) := by
  unfold fn_Plan_storyIsOpen
  rw [P_storyThat h hs, bnO_s]
  unfold stOp
  congr 1
  refine anyR_congr (fun q h1 h2 => ?_)
  have b := h.b
  have fo := fOf_b h.v (p := q) h1 (by omega)
  have v := (h.v.2.2.2.2 _ fo.1 fo.2).2.1
  congr 1
  unfold prP
  by_cases c : at_ W 15 (fOf W q) = 1
  · rw [decide_eq_true c, decide_eq_false (by omega)]; rfl
  · rw [decide_eq_false c, decide_eq_true (by omega)]; rfl
theorem P_adF0 (h : PL S p W) {f : Int} (hf : 0 ≤ f) {a : Int} (ha : inR a) : lo_Plan_adsOnForm_4 p f S FU (a, 0) = some (wr (a + sumA W (fun a => if onF W a f = true then 1 else 0))) := by
  have b := h.b
  have hq := h.q
  have fb := frm_b h.v
  have q := lp_sum (body := fun go p0 => lb_Plan_adsOnForm_4 p f S go p0.1 p0.2) (fun a => if onF W a f = true then 1 else 0) 0 (nA W)
    (fun go a i h0 => by
      show lb_Plan_adsOnForm_4 p f S go a i = _
      unfold lb_Plan_adsOnForm_4
      simp only [tq_0 hq, tq_A hq, h.mA]
      rw [if_pos (by omega)])
    (fun go a i ha h1 h2 => by
      show lb_Plan_adsOnForm_4 p f S go a i = _
      have ef : fn_Plan_formAt p (at_ W 6 i) S = some _ := P_formAt h
      have ei := P_formAd h (a := i) (f := f) ⟨h1, h2⟩ hf
      unfold lb_Plan_adsOnForm_4
      simp only [tq_0 hq, tq_A hq, h.mA, nm_x, bnO_s, wr_s (z := i + 1) (by omega) (by omega), tq_A6 hq, h.a6 ⟨h1, h2⟩, ef, ei]
      rw [if_neg (by omega), if_pos (by omega)]
      repeat' split
      all_goals first | contradiction | (exfalso; omega) | rfl | (rw [Int.add_zero, wr_id ha]) | (exfalso; simp_all; done)) (n := FU) (a := a) ha (FU_lt (by omega))
  simp only [Int.sub_zero] at q
  exact q
theorem P_laF0 (h : PL S p W) {f : Int} (hf : 0 ≤ f) {a : Int} (ha : inR a) : lo_Plan_lateOnForm_4 p f S FU (a, 0) = some (wr (a + sumA W (fun a => if onF W a f = true then (if laA W a = true then 1 else 0) else 0))) := by
  have b := h.b
  have hq := h.q
  have fb := frm_b h.v
  have q := lp_sum (body := fun go p0 => lb_Plan_lateOnForm_4 p f S go p0.1 p0.2) (fun a => if onF W a f = true then (if laA W a = true then 1 else 0) else 0) 0 (nA W)
    (fun go a i h0 => by
      show lb_Plan_lateOnForm_4 p f S go a i = _
      unfold lb_Plan_lateOnForm_4
      simp only [tq_0 hq, tq_A hq, h.mA]
      rw [if_pos (by omega)])
    (fun go a i ha h1 h2 => by
      show lb_Plan_lateOnForm_4 p f S go a i = _
      have ef : fn_Plan_formAt p (at_ W 6 i) S = some _ := P_formAt h
      have ei := P_formAd h (a := i) (f := f) ⟨h1, h2⟩ hf
      have el : fn_Plan_isLate p (at_ W 5 i) S = some (laA W i) := P_isLate h
      unfold lb_Plan_lateOnForm_4
      simp only [tq_0 hq, tq_A hq, h.mA, nm_x, bnO_s, wr_s (z := i + 1) (by omega) (by omega), tq_A5 hq, tq_A6 hq, h.a5 ⟨h1, h2⟩, h.a6 ⟨h1, h2⟩, ef, ei, el]
      rw [if_neg (by omega), if_pos (by omega)]
      repeat' split
      all_goals first | contradiction | (exfalso; omega) | rfl | (rw [Int.add_zero, wr_id ha]) | (exfalso; simp_all; done)) (n := FU) (a := a) ha (FU_lt (by omega))
  simp only [Int.sub_zero] at q
  exact q
theorem P_laF1 (h : PL S p W) {f : Int} (hf : 0 ≤ f) {a : Int} (ha : inR a) : lo_Plan_lateOnForm_68 p f S FU (a, 0) = some (wr (a + sumS W (fun s => if laS W s = true then (if hasPg W s f = true then 1 else 0) else 0))) := by
  have b := h.b
  have hq := h.q
  have fb := frm_b h.v
  have q := lp_sum (body := fun go p0 => lb_Plan_lateOnForm_68 p f S go p0.1 p0.2) (fun s => if laS W s = true then (if hasPg W s f = true then 1 else 0) else 0) 0 (nS W)
    (fun go a i h0 => by
      show lb_Plan_lateOnForm_68 p f S go a i = _
      unfold lb_Plan_lateOnForm_68
      simp only [tq_0 hq, tq_S hq, h.mS]
      rw [if_pos (by omega)])
    (fun go a i ha h1 h2 => by
      show lb_Plan_lateOnForm_68 p f S go a i = _
      have el : fn_Plan_isLate p (at_ W 10 i) S = some (laS W i) := P_isLate h
      have eo : fn_Plan_storyIsOn p i f S = some (hasPg W i f) := P_storyIsOn h ⟨h1, h2⟩ hf
      unfold lb_Plan_lateOnForm_68
      simp only [tq_0 hq, tq_S hq, h.mS, nm_x, bnO_s, wr_s (z := i + 1) (by omega) (by omega), tq_S3 hq, h.s3 ⟨h1, h2⟩, el, eo]
      rw [if_neg (by omega), if_pos (by omega)]
      repeat' split
      all_goals first | contradiction | (exfalso; omega) | rfl | (rw [Int.add_zero, wr_id ha]) | (exfalso; simp_all; done)) (n := FU) (a := a) ha (FU_lt (by omega))
  simp only [Int.sub_zero] at q
  exact q
theorem P_hsC0 (h : PL S p W) {f : Int} (hf : 0 ≤ f) : lo_Plan_hasColorItem_2 p f S FU 0 = if anyA W (fun a => onF W a f && decide (at_ W 2 a = 1)) = true then some (.inl true) else some (.inr ()) := by
  have b := h.b
  have hq := h.q
  have fb := frm_b h.v
  have q := lp_ex (body := fun go p0 => lb_Plan_hasColorItem_2 p f S go p0) (fun a => onF W a f && decide (at_ W 2 a = 1)) true 0 (nA W)
    (fun go i h0 => by
      show lb_Plan_hasColorItem_2 p f S go i = _
      unfold lb_Plan_hasColorItem_2
      simp only [tq_0 hq, tq_A hq, h.mA]
      rw [if_pos (by omega)])
    (fun go i h1 h2 => by
      show lb_Plan_hasColorItem_2 p f S go i = _
      have ef : fn_Plan_formAt p (at_ W 6 i) S = some _ := P_formAt h
      have ei := P_formAd h (a := i) (f := f) ⟨h1, h2⟩ hf
      unfold lb_Plan_hasColorItem_2
      simp only [tq_0 hq, tq_A hq, h.mA, nm_x, bnO_s, wr_s (z := i + 1) (by omega) (by omega), tq_A2 hq, tq_A6 hq, h.a2 ⟨h1, h2⟩, h.a6 ⟨h1, h2⟩, ef, ei]
      rw [if_neg (by omega), if_pos (by omega)]
      repeat' split
      all_goals first | contradiction | (exfalso; omega) | rfl | simp_all) (n := FU) (by decide) (FU_lt (by omega))
  simp only [Int.sub_zero] at q
  exact q
theorem P_hsC1 (h : PL S p W) {f : Int} (hf : 0 ≤ f) : lo_Plan_hasColorItem_62 p f S FU 0 = if anyS W (fun s => decide (at_ W 8 s = 1) && hasPg W s f) = true then some (.inl true) else some (.inr ()) := by
  have b := h.b
  have hq := h.q
  have fb := frm_b h.v
  have q := lp_ex (body := fun go p0 => lb_Plan_hasColorItem_62 p f S go p0) (fun s => decide (at_ W 8 s = 1) && hasPg W s f) true 0 (nS W)
    (fun go i h0 => by
      show lb_Plan_hasColorItem_62 p f S go i = _
      unfold lb_Plan_hasColorItem_62
      simp only [tq_0 hq, tq_S hq, h.mS]
      rw [if_pos (by omega)])
    (fun go i h1 h2 => by
      show lb_Plan_hasColorItem_62 p f S go i = _
      have eo : fn_Plan_storyIsOn p i f S = some (hasPg W i f) := P_storyIsOn h ⟨h1, h2⟩ hf
      unfold lb_Plan_hasColorItem_62
      simp only [tq_0 hq, tq_S hq, h.mS, nm_x, bnO_s, wr_s (z := i + 1) (by omega) (by omega), tq_S1 hq, h.s1 ⟨h1, h2⟩, eo]
      rw [if_neg (by omega), if_pos (by omega)]
      repeat' split
      all_goals first | contradiction | (exfalso; omega) | rfl | simp_all) (n := FU) (by decide) (FU_lt (by omega))
  simp only [Int.sub_zero] at q
  exact q
theorem P_leF0 (h : PT S p W) {f : Int} {a : Int} (ha : inR a) : lo_Plan_leftOnForm_4 p f S FU (a, 1) = some (wr (a + sumP W (fun q => if fOf W q = f then lf W q else 0))) := by
  have b := h.pl.b
  have hq := h.pl.q
  have fb := frm_b h.pl.v
  have q := lp_sum (body := fun go p0 => lb_Plan_leftOnForm_4 p f S go p0.1 p0.2) (fun q => if fOf W q = f then lf W q else 0) 1 (pgs W + 1)
    (fun go a i h0 => by
      show lb_Plan_leftOnForm_4 p f S go a i = _
      unfold lb_Plan_leftOnForm_4
      simp only [tq_0 hq, h.pl.gp]
      rw [if_pos (by omega)])
    (fun go a i ha h1 h2 => by
      show lb_Plan_leftOnForm_4 p f S go a i = _
      have ef := h.pl.fo (q := i) h1 (by omega)
      have el := h.l (q := i) h1 (by omega)
      unfold lb_Plan_leftOnForm_4
      simp only [tq_0 hq, h.pl.gp, nm_x, bnO_s, wr_s (z := i + 1) (by omega) (by omega), tq_3 hq, tq_5 hq, ef, el]
      rw [if_neg (by omega), if_pos (by omega)]
      repeat' split
      all_goals first | contradiction | (exfalso; omega) | rfl | (rw [Int.add_zero, wr_id ha]) | (exfalso; simp_all; done)) (n := FU) (a := a) ha (FU_lt (by omega))
  simp only [Int.add_sub_cancel] at q
  exact q
theorem P_adsOnForm (h : PL S p W) {f : Int} (hf : 0 ≤ f) : fn_Plan_adsOnForm p f S = some (adsF W f) := by
  unfold fn_Plan_adsOnForm adsF
  rw [P_adF0 h hf (inRk rfl), bnO_s, Int.zero_add]
theorem P_lateOnForm (h : PL S p W) {f : Int} (hf : 0 ≤ f) : fn_Plan_lateOnForm p f S = some (latF W f) := by
  unfold fn_Plan_lateOnForm latF
  rw [P_laF0 h hf (inRk rfl), bnO_s, P_laF1 h hf (wr_in _), bnO_s, Int.zero_add, wr_add]
theorem P_hasColorItem (h : PL S p W) {f : Int} (hf : 0 ≤ f) : fn_Plan_hasColorItem p f S = some (hasC W f) := by
  unfold fn_Plan_hasColorItem hasC
  rw [P_hsC0 h hf, P_hsC1 h hf]
  cases anyA W (fun a => onF W a f && decide (at_ W 2 a = 1))
  · cases anyS W (fun s => decide (at_ W 8 s = 1) && hasPg W s f) <;> rfl
  · rfl
theorem P_leftOnForm (h : PT S p W) {f : Int} : fn_Plan_leftOnForm p f S = some (lefF W f) := by
  unfold fn_Plan_leftOnForm lefF
  rw [P_leF0 h (inRk rfl), bnO_s, Int.zero_add]
end PlanForms

