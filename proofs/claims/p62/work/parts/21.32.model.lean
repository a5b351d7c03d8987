section RefSums
variable {S : St} {W : Vw}
theorem sub_neg' (a b : Int) : a - b = a + -b := Int.sub_eq_add_neg
theorem Mo_roomA (hM : MV S W) {p bA bB : Int} {a : Int} (ha : inR a) : lo_Mo_roomOn_6 514 p bA bB S FU (a, 0) = some (wr (a + sumA W (fun x => -szA W p bA x))) := by
  have b := hM.b
  have q := lp_sum (body := fun go p0 => lb_Mo_roomOn_6 514 p bA bB S go p0.1 p0.2) (fun x => -szA W p bA x) 0 (nA W)
    (fun go a i h => by
      show lb_Mo_roomOn_6 514 p bA bB S go a i = _
      unfold lb_Mo_roomOn_6
      rw [tg_514_0, hM.mA, if_pos h])
    (fun go a i ha h1 h2 => by
      show lb_Mo_roomOn_6 514 p bA bB S go a i = _
      have e6 : fn_Mo_ofAd 514 i 6 S = some (at_ W 6 i) := Mo_ofAd hM (k := 6) (by omega) ⟨h1, h2⟩
      have e0 : fn_Mo_ofAd 514 i 0 S = some (at_ W 0 i) := Mo_ofAd hM (k := 0) (by omega) ⟨h1, h2⟩
      unfold lb_Mo_roomOn_6 szA
      simp only [tg_514_0, hM.mA, e6, e0, nm_x, bnO_s, wr_s (z := i + 1) (by omega) (by omega)]
      rw [if_neg (by omega)]
      by_cases c1 : i = bA
      · rw [if_pos c1, if_neg (fun h => h.1 c1), Int.neg_zero, Int.sub_zero, Int.add_zero]
      · rw [if_neg c1]
        by_cases c2 : at_ W 6 i = p
        · rw [if_pos c2, if_pos ⟨c1, c2⟩, sub_neg']
        · rw [if_neg c2, if_neg (fun h => c2 h.2), Int.neg_zero, Int.sub_zero, Int.add_zero]) (n := FU) (a := a) ha (FU_lt (by omega))
  rw [Int.sub_zero] at q
  exact q
theorem Mo_roomB (hM : MV S W) {p bB : Int} {a : Int} (ha : inR a) : lo_Mo_roomOn_60 514 p bB S FU (a, 0) = some (wr (a + sumB W (fun x => -szB W p bB x))) := by
  have b := hM.b
  have q := lp_sum (body := fun go p0 => lb_Mo_roomOn_60 514 p bB S go p0.1 p0.2) (fun x => -szB W p bB x) 0 (nB W)
    (fun go a i h => by
      show lb_Mo_roomOn_60 514 p bB S go a i = _
      unfold lb_Mo_roomOn_60
      rw [tg_514_0, hM.mB, if_pos h])
    (fun go a i ha h1 h2 => by
      show lb_Mo_roomOn_60 514 p bB S go a i = _
      have e6 : fn_Mo_ofStandby 514 i 1 S = some (at_ W 13 i) := Mo_ofStandby hM (k := 1) (by omega) ⟨h1, h2⟩
      have e0 : fn_Mo_ofStandby 514 i 0 S = some (at_ W 12 i) := Mo_ofStandby hM (k := 0) (by omega) ⟨h1, h2⟩
      unfold lb_Mo_roomOn_60 szB
      simp only [tg_514_0, hM.mB, e6, e0, nm_x, bnO_s, wr_s (z := i + 1) (by omega) (by omega)]
      rw [if_neg (by omega)]
      by_cases c1 : i = bB
      · rw [if_pos c1, if_neg (fun h => h.1 c1), Int.neg_zero, Int.sub_zero, Int.add_zero]
      · rw [if_neg c1]
        by_cases c2 : at_ W 13 i = p
        · rw [if_pos c2, if_pos ⟨c1, c2⟩, sub_neg']
        · rw [if_neg c2, if_neg (fun h => c2 h.2), Int.neg_zero, Int.sub_zero, Int.add_zero]) (n := FU) (a := a) ha (FU_lt (by omega))
  rw [Int.sub_zero] at q
  exact q
theorem Mo_roomOn (hM : MV S W) {p bA bB : Int} : fn_Mo_roomOn 514 p bA bB S = some (room W p bA bB) := by
  unfold fn_Mo_roomOn room
  rw [Mo_roomA hM (inRk rfl), bnO_s, Mo_roomB hM (wr_in _), bnO_s, wr_add]
theorem Mo_leftOn (hM : MV S W) {p bA bB : Int} : fn_Mo_leftOn 514 p bA bB S = some (lefO W p bA bB) := by
  unfold fn_Mo_leftOn lefO
  rw [Mo_storyOn hM, bnO_s, Mo_roomOn hM, bnO_s]
  split <;> rfl
theorem Mo_left (hM : MV S W) {p : Int} : fn_Mo_left 514 p S = some (lefO W p (-1) (-1)) := by
  unfold fn_Mo_left
  rw [Mo_leftOn hM, bnO_s]
theorem Mo_isOnSide {S : St} {p s : Int} (hp : 0 ≤ p) : fn_Mo_isOnSide p s S = some (onSd p s) := by
  unfold fn_Mo_isOnSide onSd
  have e : wr (p.tmod 2) = p % 2 := by rw [tm_n hp, wr_s (by omega) (by omega)]
  simp only [nm_x, e]
  by_cases c0 : s = 0
  · rw [if_pos c0, decide_eq_true (.inl c0)]
  · rw [if_neg c0]
    by_cases c2 : s = 2
    · simp only [c2, if_true]
      split
      · rename_i c; rw [decide_eq_true (.inr c)]
      · rename_i c; rw [decide_eq_false (fun q => q.elim (by omega) c)]
    · simp only [c2, if_false]
      split
      · rename_i c; rw [decide_eq_true (.inr c)]
      · rename_i c; rw [decide_eq_false (fun q => q.elim c0 c)]
theorem bi_t : bi true = 1 := rfl
theorem bi_f : bi false = 0 := rfl
theorem i_ord {b : Bool} {c : Prop} [Decidable c] : i_or (bi b) (if c then 1 else 0) = bi (b || decide c) := by
  by_cases h : c
  · rw [if_pos h, decide_eq_true h]; exact i_orb (c := true)
  · rw [if_neg h, decide_eq_false h]; exact i_orb (c := false)
theorem i_or_t {b : Bool} : i_or (bi b) 1 = bi (b || true) := i_orb (c := true)
theorem i_or_f {b : Bool} : i_or (bi b) 0 = bi (b || false) := i_orb (c := false)
theorem Mo_rivals (hM : MV S W) {a sp : Int} (ha : 0 ≤ a ∧ a < nA W) : lo_Mo_hasRival_5 514 a sp S FU (0, 0) = some (bi (anyA W (fun o => decide (o ≠ a ∧ 0 < at_ W 6 o ∧ at_ W 6 o / 2 = sp ∧ at_ W 1 o = at_ W 1 a)))) := by
  have b := hM.b
  have q := lp_any (body := fun go p0 => lb_Mo_hasRival_5 514 a sp S go p0.1 p0.2) (fun o => decide (o ≠ a ∧ 0 < at_ W 6 o ∧ at_ W 6 o / 2 = sp ∧ at_ W 1 o = at_ W 1 a)) 0 (nA W)
    (fun go z i h => by
      show lb_Mo_hasRival_5 514 a sp S go z i = _
      unfold lb_Mo_hasRival_5
      rw [tg_514_0, hM.mA, if_pos h])
    (fun go z i h1 h2 => by
      show lb_Mo_hasRival_5 514 a sp S go (bi z) i = _
      have v := hM.2.2.1 i h1 h2
      have e6 : fn_Mo_ofAd 514 i 6 S = some (at_ W 6 i) := Mo_ofAd hM (k := 6) (by omega) ⟨h1, h2⟩
      have e1 : fn_Mo_ofAd 514 i 1 S = some (at_ W 1 i) := Mo_ofAd hM (k := 1) (by omega) ⟨h1, h2⟩
      have e1a : fn_Mo_ofAd 514 a 1 S = some (at_ W 1 a) := Mo_ofAd hM (k := 1) (by omega) ha
      unfold lb_Mo_hasRival_5
      simp only [tg_514_0, hM.mA, e6, e1, e1a, nm_x, bnO_s, wr_s (z := i + 1) (by omega) (by omega), td_n (a := at_ W 6 i) (b := 2) (by omega), wr_s (z := at_ W 6 i / 2) (by omega) (by omega), i_or_t, i_or_f]
      rw [if_neg (by omega)]
      by_cases c1 : i = a
      · rw [if_pos c1, decide_eq_false (fun h => h.1 c1)]
      · rw [if_neg c1]
        by_cases c2 : at_ W 6 i ≤ 0
        · rw [if_pos c2, decide_eq_false (fun h => by omega)]
        · rw [if_neg c2]
          by_cases c3 : at_ W 6 i / 2 = sp
          · rw [if_pos c3]
            by_cases c4 : at_ W 1 i = at_ W 1 a
            · rw [if_pos c4, decide_eq_true ⟨c1, by omega, c3, c4⟩]
            · rw [if_neg c4, decide_eq_false (fun h => c4 h.2.2.2)]
          · rw [if_neg c3, decide_eq_false (fun h => c3 h.2.2.1)]) (n := FU) (b := false) (FU_lt (by omega))
  rw [Int.sub_zero, Bool.false_or] at q
  exact q
theorem bi_0 {b : Bool} : (bi b = 0) = (b = false) := by cases b <;> simp [bi]
theorem bi_1 {b : Bool} : (bi b = 1) = (b = true) := by cases b <;> simp [bi]
theorem bi_01 {b : Bool} : bi b = 0 ∨ bi b = 1 := by cases b <;> simp [bi]
theorem bi_d {b : Bool} : decide (bi b = 1) = b := by cases b <;> rfl
theorem Mo_hasRival (hM : MV S W) {a sp : Int} (ha : 0 ≤ a ∧ a < nA W) : fn_Mo_hasRival 514 a sp S = some (rivl W a sp) := by
  have e1a : fn_Mo_ofAd 514 a 1 S = some (at_ W 1 a) := Mo_ofAd hM (k := 1) (by omega) ha
  unfold fn_Mo_hasRival rivl
  simp only [Mo_rivals hM ha, e1a, bnO_s, bi_0]
  generalize anyA W _ = x
  cases x
  · rw [if_pos rfl, Bool.false_and]
  · rw [if_neg (by decide), Bool.true_and]
    split
    · rename_i c; rw [decide_eq_false (fun h => h c)]
    · rename_i c; rw [decide_eq_true c]
theorem Mo_reasonOf (hM : MV S W) {a p : Int} (ha : 0 ≤ a ∧ a < nA W) : fn_Mo_reasonOf 514 a p S = some (reas W a p) := by
  have b := hM.b
  have e0 : fn_Mo_ofAd 514 a 0 S = some (at_ W 0 a) := Mo_ofAd hM (k := 0) (by omega) ha
  have e2 : fn_Mo_ofAd 514 a 2 S = some (at_ W 2 a) := Mo_ofAd hM (k := 2) (by omega) ha
  have e3 : fn_Mo_ofAd 514 a 3 S = some (at_ W 3 a) := Mo_ofAd hM (k := 3) (by omega) ha
  unfold fn_Mo_reasonOf reas
  rw [Mo_isPage hM, bnO_s]
  by_cases c0 : isP W p = true
  · rw [if_pos c0, if_pos c0]
    have c0' : 1 ≤ p ∧ p ≤ pgs W := of_decide_eq_true c0
    simp only [Mo_isPrinted hM c0', Mo_hasColor hM c0', Mo_leftOn hM, e0, e2, e3, bnO_s, Mo_isOnSide (S := S) (s := at_ W 3 a) (show 0 ≤ p by omega), nm_x, td_n (a := p) (b := 2) (by omega), wr_s (z := p / 2) (by omega) (by omega), Mo_hasRival hM ha]
    by_cases c1 : prP W p = true
    · rw [if_pos c1, if_pos c1]
    · rw [if_neg c1, if_neg c1]
      by_cases c2 : at_ W 0 a ≤ lefO W p a (-1)
      · rw [if_pos c2, if_neg (c := lefO W p a (-1) < at_ W 0 a) (by omega)]
        by_cases c3 : at_ W 2 a = 1 ∧ coP W p = false
        · rw [if_pos (c := at_ W 2 a = 1 ∧ coP W p = false) c3, if_pos c3.1, if_neg (c := coP W p = true) (by rw [c3.2]; exact Bool.false_ne_true)]
        · rw [if_neg (c := at_ W 2 a = 1 ∧ coP W p = false) c3]
          by_cases c4 : at_ W 2 a = 1
          · have c5 : coP W p = true := by
              cases e : coP W p
              · exact absurd ⟨c4, e⟩ c3
              · rfl
            rw [if_pos c4, if_pos (c := coP W p = true) c5]
            cases onSd p (at_ W 3 a) <;> cases rivl W a (p / 2) <;> rfl
          · rw [if_neg c4]
            cases onSd p (at_ W 3 a) <;> cases rivl W a (p / 2) <;> rfl
      · rw [if_neg c2, if_pos (c := lefO W p a (-1) < at_ W 0 a) (by omega)]
  · rw [if_neg c0, if_neg c0]
end RefSums
