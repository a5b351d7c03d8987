/-! lateItem and emptiest -/
section LateItem
variable {S T : St} {W : Vw} {n : Int} {hs : Int → Vw}
def lkI (W : Vw) (x : Int) : Int := 200 * rdy W x + x
theorem lk_bd (hV : Val W) {x : Int} (h0 : 0 ≤ x) (h1 : x < 110) (h : ltI W x = true) : 0 ≤ lkI W x ∧ lkI W x ≤ 1999910 := by
  have hi : itm W x = true := by
    unfold ltI at h
    rw [Bool.and_eq_true] at h
    exact h.1
  have q := rdy_bd hV hi
  unfold lkI
  omega
theorem lk_inj {x y : Int} (hx : 0 ≤ x ∧ x < 110) (hy : 0 ≤ y ∧ y < 110) (e : lkI W x = lkI W y) : x = y := by
  unfold lkI at e
  omega
theorem lk_late (h : PT S 5 W) {c : Int} : fn_Searches_nextLateRank 505 c S = some (itR (mnF (ltI W) (lkI W) c) 0 110 (-1)) := by
  have b := h.pl.b
  have nr : ∀ s r : Int, fn_Searches_nearerRank c s r S = some (if r ≤ c then s else if s = -1 then r else if s ≤ r then s else r) := fun s r => by
    unfold fn_Searches_nearerRank
    repeat' split
    all_goals first | rfl | contradiction
  have q1 : lo_Searches_nextLateRank_4 505 c S FU (-1, 0) = some (itR (mnF (ltI W) (lkI W) c) 0 (nA W - 0).toNat (-1)) :=
    lp_acc (body := fun go p0 => lb_Searches_nextLateRank_4 505 c S go p0.1 p0.2) (mnF (ltI W) (lkI W) c) 0 (nA W)
      (fun go s i h0 => by
        show lb_Searches_nextLateRank_4 505 c S go s i = _
        have e7 : g S 7 7 = nA W := h.pl.mA
        unfold lb_Searches_nextLateRank_4
        rw [tg_505_1, tg_6_0, e7, if_pos h0])
      (fun go s i h1 h2 => by
        show lb_Searches_nextLateRank_4 505 c S go s i = go (mnF (ltI W) (lkI W) c i s, i + 1)
        have e7 : g S 7 7 = nA W := h.pl.mA
        have x5 : g S 13 i.toNat = at_ W 5 i := h.pl.a5 ⟨h1, h2⟩
        have im := itm_ad h.v ⟨h1, h2⟩
        have rb := rdy_bd h.v im
        have re : rdy W i = at_ W 5 i := rdy_ad (by omega)
        unfold lb_Searches_nextLateRank_4
        rw [tg_505_1, tg_6_0, e7, if_neg (by omega : ¬ nA W ≤ i), S_adIsOpen h ⟨h1, h2⟩, bnO_s]
        cases c1 : opn W i
        · have l0 : ltI W i = false := by unfold ltI; rw [c1, Bool.and_false, Bool.and_false]
          unfold mnF
          rw [if_neg Bool.false_ne_true, l0, if_neg Bool.false_ne_true, nm_x, wr_s (z := i + 1) (by omega) (by omega)]
        · rw [if_pos rfl, if_pos (by omega : 0 ≤ i ∧ i < 40), tg_505_0, tg_7_5, x5, P_isLate h.pl, bnO_s]
          by_cases d : tm W < at_ W 5 i
          · have l1 : ltI W i = true := by unfold ltI; rw [c1, im, re, decide_eq_true d]; rfl
            have ek : fn_Searches_rankOf (at_ W 5 i) i S = some (lkI W i) := by
              unfold fn_Searches_rankOf lkI
              rw [re, wr_s (by omega) (by omega)]
            rw [if_pos (decide_eq_true d), ek, bnO_s, nr, bnO_s, nm_x, wr_s (z := i + 1) (by omega) (by omega)]
            unfold mnF
            rw [l1, if_pos rfl]
          · have l0 : ltI W i = false := by unfold ltI; rw [c1, re, decide_eq_false d, Bool.false_and, Bool.and_false]
            rw [if_neg (by rw [decide_eq_true_eq]; exact d), nm_x, wr_s (z := i + 1) (by omega) (by omega)]
            unfold mnF
            rw [l0, if_neg Bool.false_ne_true]) (FU_lt (by omega))
  obtain ⟨s0, es⟩ : ∃ s0, s0 = itR (mnF (ltI W) (lkI W) c) 0 (nA W - 0).toNat (-1) := ⟨_, rfl⟩
  rw [← es] at q1
  have q2 : lo_Searches_nextLateRank_78 505 c S FU (s0, 0) = some (itR (fun j => mnF (ltI W) (lkI W) c (100 + j)) 0 (nS W - 0).toNat s0) :=
    lp_acc (body := fun go p0 => lb_Searches_nextLateRank_78 505 c S go p0.1 p0.2) (fun j => mnF (ltI W) (lkI W) c (100 + j)) 0 (nS W)
      (fun go s i h0 => by
        show lb_Searches_nextLateRank_78 505 c S go s i = _
        have e7 : g S 15 5 = nS W := h.pl.mS
        unfold lb_Searches_nextLateRank_78
        rw [tg_505_1, tg_6_1, e7, if_pos h0])
      (fun go s i h1 h2 => by
        show lb_Searches_nextLateRank_78 505 c S go s i = go (mnF (ltI W) (lkI W) c (100 + i) s, i + 1)
        have e7 : g S 15 5 = nS W := h.pl.mS
        have x5 : g S 19 i.toNat = at_ W 10 i := h.pl.s3 ⟨h1, h2⟩
        have im := itm_st h.v ⟨h1, h2⟩
        have rb := rdy_bd h.v im
        have re : rdy W (100 + i) = at_ W 10 i := rdy_st h1
        have oe : opn W (100 + i) = stOp W i := opn_st h1
        unfold lb_Searches_nextLateRank_78
        rw [tg_505_1, tg_6_1, e7, if_neg (by omega : ¬ nS W ≤ i), tg_505_0, P_storyIsOpen h.pl ⟨h1, h2⟩, bnO_s]
        cases c1 : stOp W i
        · have l0 : ltI W (100 + i) = false := by unfold ltI; rw [oe, c1, Bool.and_false, Bool.and_false]
          unfold mnF
          rw [if_neg Bool.false_ne_true, l0, if_neg Bool.false_ne_true, nm_x, wr_s (z := i + 1) (by omega) (by omega)]
        · rw [if_pos rfl, if_pos (by omega : 0 ≤ i ∧ i < 10), tg_15_3, x5, P_isLate h.pl, bnO_s]
          by_cases d : tm W < at_ W 10 i
          · have l1 : ltI W (100 + i) = true := by unfold ltI; rw [oe, c1, im, re, decide_eq_true d]; rfl
            have ek : fn_Searches_rankOf (at_ W 10 i) (100 + i) S = some (lkI W (100 + i)) := by
              unfold fn_Searches_rankOf lkI
              rw [re, wr_s (by omega) (by omega)]
            rw [if_pos (decide_eq_true d), nm_x, wr_s (z := 100 + i) (by omega) (by omega), ek, bnO_s, nr, bnO_s, nm_x, wr_s (z := i + 1) (by omega) (by omega)]
            unfold mnF
            rw [l1, if_pos rfl]
          · have l0 : ltI W (100 + i) = false := by unfold ltI; rw [oe, c1, re, decide_eq_false d, Bool.false_and, Bool.and_false]
            rw [if_neg (by rw [decide_eq_true_eq]; exact d), nm_x, wr_s (z := i + 1) (by omega) (by omega)]
            unfold mnF
            rw [l0, if_neg Bool.false_ne_true]) (FU_lt (by omega))
  unfold fn_Searches_nextLateRank
  rw [q1, bnO_s, q2, bnO_s]
  rw [it_items h.v (f := mnF (ltI W) (lkI W) c) (fun x s hx => by unfold mnF ltI; rw [hx, Bool.false_and, if_neg Bool.false_ne_true]), es, Int.sub_zero, Int.sub_zero]
def liN (W : Vw) (a : Int) : Int := fstR (fun x => ltI W x && decide (ctK (ltI W) (lkI W) 0 110 (lkI W x) = a)) 0 ((110 : Int) - 0).toNat
theorem li_is {a x : Int} (hV : Val W) (h0 : 0 ≤ x) (h1 : x < 110) (hp : ltI W x = true) (hc : ctK (ltI W) (lkI W) 0 110 (lkI W x) = a) : liN W a = x := by
  have e : ((110 : Int) - 0).toNat = 110 := by decide
  unfold liN
  rw [e]
  rcases fstR_spec (p := fun x => ltI W x && decide (ctK (ltI W) (lkI W) 0 110 (lkI W x) = a)) (n := 110) (i := 0) (Int.le_refl _) with ⟨_, q⟩ | ⟨q1, q2, q3, _⟩
  · have := q x h0 (by omega)
    rw [hp, decide_eq_true hc] at this
    exact absurd this (by decide)
  · rw [Bool.and_eq_true, decide_eq_true_eq] at q3
    exact ctK_inj (p := ltI W) (k := lkI W) (l := 0) (N := 110) (fun x y a1 a2 b1 b2 _ _ e => lk_inj ⟨a1, by omega⟩ ⟨b1, by omega⟩ e) ⟨q1, q2⟩ ⟨h0, by omega⟩ q3.1 hp (by rw [q3.2, hc])
theorem li_none {a : Int} (h : ∀ x, 0 ≤ x → x < 110 → ltI W x = true → ctK (ltI W) (lkI W) 0 110 (lkI W x) ≠ a) : liN W a = -1 := by
  have e : ((110 : Int) - 0).toNat = 110 := by decide
  unfold liN
  rw [e]
  rcases fstR_spec (p := fun x => ltI W x && decide (ctK (ltI W) (lkI W) 0 110 (lkI W x) = a)) (n := 110) (i := 0) (Int.le_refl _) with ⟨q, _⟩ | ⟨q1, q2, q3, _⟩
  · exact q
  · rw [Bool.and_eq_true, decide_eq_true_eq] at q3
    exact absurd q3.2 (h _ q1 (by omega) q3.1)
theorem li_cnt (hV : Val W) {d : Int} : ctK (ltI W) (lkI W) 0 110 d ≤ 50 := by
  have b1 := hV.1.1
  have b2 := hV.1.2.1
  have z : ∀ x, 0 ≤ x → ¬ x < nA W → ¬ (100 ≤ x ∧ x < 100 + nS W) → (if ltI W x = true ∧ lkI W x < d then (1 : Int) else 0) = 0 := fun x h0 h1 h2 => by
    have : itm W x = false := by
      unfold itm
      rw [decide_eq_false (by omega), decide_eq_false (by omega)]; rfl
    rw [if_neg (fun q => by
      have q1 := q.1
      unfold ltI at q1
      rw [this] at q1
      rw [Bool.false_and] at q1
      exact Bool.false_ne_true q1)]
  have one : ∀ x, 0 ≤ (if ltI W x = true ∧ lkI W x < d then (1 : Int) else 0) ∧ (if ltI W x = true ∧ lkI W x < d then (1 : Int) else 0) ≤ 1 := fun x => by split <;> omega
  unfold ctK
  rw [show (110 : Nat) = (nA W).toNat + ((100 - (nA W).toNat) + ((nS W).toNat + (10 - (nS W).toNat))) by omega, sumR_app, sumR_app, sumR_app]
  have e1 := sumR_bd (w := fun y => if ltI W y = true ∧ lkI W y < d then 1 else 0) (l := 0) (h := 1) (n := (nA W).toNat) (i := 0) (fun j _ _ => one j)
  have e2 := sumR_0 (w := fun y => if ltI W y = true ∧ lkI W y < d then 1 else 0) (n := 100 - (nA W).toNat) (i := 0 + ((nA W).toNat : Int)) (fun j h1 h2 => z j (by omega) (by omega) (by omega))
  have e3 := sumR_bd (w := fun y => if ltI W y = true ∧ lkI W y < d then 1 else 0) (l := 0) (h := 1) (n := (nS W).toNat) (i := 0 + ((nA W).toNat : Int) + ((100 - (nA W).toNat : Nat) : Int)) (fun j _ _ => one j)
  have e4 := sumR_0 (w := fun y => if ltI W y = true ∧ lkI W y < d then 1 else 0) (n := 10 - (nS W).toNat) (i := 0 + ((nA W).toNat : Int) + ((100 - (nA W).toNat : Nat) : Int) + ((nS W).toNat : Int)) (fun j h1 h2 => z j (by omega) (by omega) (by omega))
  rw [e2, e4]
  omega
theorem li_class (h : PT S 5 W) {a : Int} : fn_FP_lateItem 0 a S = some (liN W a) := by
  have hnn : ∀ x : Int, 0 ≤ x → x < 0 + ((110 : Nat) : Int) → ltI W x = true → 0 ≤ lkI W x := fun x h0 h1 h2 => (lk_bd h.v h0 (by omega) h2).1
  unfold fn_FP_lateItem fn_Searches_lateItemAt
  rw [tg_0_2]
  by_cases c1 : a < 0
  · rw [if_pos c1, bnO_s, li_none (fun x _ _ _ => by have := ctK_nn (p := ltI W) (k := lkI W) (l := 0) (N := 110) (c := lkI W x); omega)]
  · rw [if_neg c1]
    by_cases c2 : a < 50
    · rw [if_pos c2]
      have inj : ∀ x y : Int, 0 ≤ x → x < 0 + ((110 : Nat) : Int) → 0 ≤ y → y < 0 + ((110 : Nat) : Int) → ltI W x = true → ltI W y = true → lkI W x = lkI W y → x = y := fun x y a1 a2 b1 b2 _ _ e => lk_inj ⟨a1, by omega⟩ ⟨b1, by omega⟩ e
      have q := lp_kth (body := fun go p0 => lb_Searches_lateItemAt_16 505 a S go p0.1 p0.2) (p := ltI W) (k := lkI W) (l := 0) (N := 110) (K := a) hnn inj
        (fun go c i h0 => by
          show lb_Searches_lateItemAt_16 505 a S go c i = _
          unfold lb_Searches_lateItemAt_16
          rw [if_pos h0])
        (fun go c i _ h1 h2 => by
          show lb_Searches_lateItemAt_16 505 a S go c i = _
          unfold lb_Searches_lateItemAt_16
          rw [if_neg (by omega : ¬ a < i), lk_late h, bnO_s, nm_x, wr_s (z := i + 1) (by omega) (by omega)])
        (a + 1 - 0).toNat FU 0 (-1) rfl (FU_lt (by omega)) (Int.le_refl _) (by omega) (.inl ⟨rfl, rfl⟩) (by omega)
      rcases q with ⟨e, f⟩ | ⟨x, h0, h1, hp, hc, e⟩
      · have e' : lo_Searches_lateItemAt_16 505 a S FU (-1, 0) = some (.inl (-1)) := e
        rw [e', bnS_l, bnO_s, li_none (fun x x0 x1 xp xc => by
          have q1 := ctK_lt (p := ltI W) (k := lkI W) (l := 0) (N := 110) (d := lkI W x + 1) x0 (by omega) xp (by omega)
          have q2 := f (lkI W x + 1)
          omega)]
      · have e' : lo_Searches_lateItemAt_16 505 a S FU (-1, 0) = some (.inr (lkI W x)) := e
        have lb := lk_bd h.v h0 (by omega) hp
        have lm : lkI W x % 200 = x := by unfold lkI; omega
        rw [e', bnS_r, bnO_s, li_is h.v h0 (by omega) hp hc, tm_n lb.1, lm, wr_s (by omega) (by omega)]
    · rw [if_neg c2, bnO_s, li_none (fun x x0 x1 xp xc => by
        have q1 := ctK_lt (p := ltI W) (k := lkI W) (l := 0) (N := 110) (d := lkI W x + 1) x0 (by omega) xp (by omega)
        have q2 := li_cnt h.v (d := lkI W x + 1)
        omega)]
end LateItem

