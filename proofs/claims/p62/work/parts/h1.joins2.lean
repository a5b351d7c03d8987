/-! MATCHING: the law's search is right -/
section Joins2
variable {S : St} {L0 : List PC} {P : PA} {W : Vw} {w : Nat → Int} {s : Nat → Bool} {Q A : Int → Bool} {ad : Int} {c2 c3 : Nat}
theorem RowI.wj {K K1 : List PC} {r r' n k : Nat} {f : Nat → Int} {vs : List Value} {c : PC} (h : RowI K r n f) (h' : hp K r' = some (k, vs)) (hk : k ≠ 100) (hw : W1 K K1 r' c) : RowI K1 r n f := h.w1 hw (by
  obtain ⟨v0, h1, -, -⟩ := h
  exact hp_ne h1 h' (fun e => hk e.symm))
theorem RowB.wj {K K1 : List PC} {r r' n k : Nat} {f : Nat → Bool} {vs : List Value} {c : PC} (h : RowB K r n f) (h' : hp K r' = some (k, vs)) (hk : k ≠ 102) (hw : W1 K K1 r' c) : RowB K1 r n f := h.w1 hw (by
  obtain ⟨v0, h1, -, -⟩ := h
  exact hp_ne h1 h' (fun e => hk e.symm))
theorem jn_loop {rc : Nat → Int → Nat → Nat → St → List PC → Option ((Bool × LZ) × Nat × Nat)} {d : Int} (h0 : HP L0 P W) (hV : Val W) (hc2 : nCell + L0.length ≤ c2) (hc3 : nCell + L0.length ≤ c3) (ih : JnC rc L0 P W c2 c3 d) (had : 0 ≤ ad ∧ ad < nA W) (hu : unI W s ≤ d) (hw : WokJ W w) (hM : MtQ W w Q A) (hA : A ad = false) (hQ : ∀ q : Int, 1 ≤ q → q ≤ pgs W → Q q = true → s q.toNat = true) :
    ∀ (n N : Nat) (p : Int) (K : List PC) (s1 : Nat → Bool), p + n = pgs W + 1 → 1 ≤ p → n < N → Sf F0_ L0 K → RowI K c2 65 w → RowB K c3 65 s1 → (∀ q, s q = true → s1 q = true) → (∀ q : Int, 1 ≤ q → q < p → adjW W ad q = true → s1 q.toNat = true) → ClJ W w s s1 →
    ∃ b K' w' s', lp (fun go p' => lb2_LP_joins_3 rc (pT P) ad c2 c3 go p'.1 p'.2.1 p'.2.2) N (p, (S, K)) = some ((if b = true then .inl (true, (S, K')) else .inr (S, K')), 0, 0) ∧ Sf F0_ L0 K' ∧ K'.length = K.length ∧ RowI K' c2 65 w' ∧ RowB K' c3 65 s' ∧ PostJ W w w' s s' Q A ad b
  | 0, N + 1, p, K, s1, hk, hp1, _, hs, hr, hb, h1, h2, h3 => by
    have hK := h0.sf0 hs
    refine ⟨false, K, w, s1, ?_, hs, rfl, hr, hb, h1, .inr ⟨rfl, rfl, fun q q1 q2 q3 => h2 q q1 (by omega) q3, h3⟩⟩
    rw [lp_succ]
    show lb2_LP_joins_3 rc (pT P) ad c2 c3 _ p S K = _
    unfold lb2_LP_joins_3
    rw [if_pos hK.k, l_pages hK hV, bnO_s, if_pos (by omega), if_neg Bool.false_ne_true]
  | n + 1, N + 1, p, K, s1, hk, hp1, hN, hs, hr, hb, h1, h2, h3 => by
    have pb := hV.pg
    have bz := hV.z
    have hK := h0.sf0 hs
    have hp : 1 ≤ p ∧ p ≤ pgs W := by omega
    have i1 : wr (p + 1) = p + 1 := wr_s (by omega) (by omega)
    have hal := hb.at (w := p) ⟨by omega, by omega⟩
    obtain ⟨x, hx, hg, hy⟩ := hK.ad had
    have kk : isK K x 11 = true := isK_s hy (by decide)
    have hre := l_reason (S := S) hK hV had hx (p := p) (by unfold inR; omega)
    -- on with the next page
    have next : ∀ (K1 : List PC) (s2 : Nat → Bool), Sf F0_ L0 K1 → K1.length = K.length → RowI K1 c2 65 w → RowB K1 c3 65 s2 → (∀ q, s1 q = true → s2 q = true) → (adjW W ad p = true → s2 p.toNat = true) → ClJ W w s s2 →
        ∃ b K' w' s', lp (fun go p' => lb2_LP_joins_3 rc (pT P) ad c2 c3 go p'.1 p'.2.1 p'.2.2) N (p + 1, (S, K1)) = some ((if b = true then .inl (true, (S, K')) else .inr (S, K')), 0, 0) ∧ Sf F0_ L0 K' ∧ K'.length = K.length ∧ RowI K' c2 65 w' ∧ RowB K' c3 65 s' ∧ PostJ W w w' s s' Q A ad b := fun K1 s2 g1 g2 g3 g4 g5 g6 g7 => by
      obtain ⟨b, K', w', s', e, e1, e2, e3⟩ := jn_loop h0 hV hc2 hc3 ih had hu hw hM hA hQ n N (p + 1) K1 s2 (by omega) (by omega) (by omega) g1 g3 g4 (fun q hq => g5 q (h1 q hq)) (fun q q1 q2 q3 => by
        by_cases c : q = p
        · rw [c] at q3 ⊢; exact g6 q3
        · exact g5 _ (h2 q q1 (by omega) q3)) g7
      exact ⟨b, K', w', s', e, e1, e2.trans g2, e3⟩
    have hun : ∀ (go : Int × LZ → Option (((Bool × LZ) ⊕ (LZ)) × Nat × Nat)), lb2_LP_joins_3 rc (pT P) ad c2 c3 go p S K = if s1 p.toNat = true then go (p + 1, (S, K)) else if adjW W ad p = true then jf2_LP_joins_56_3 rc (pT P) ad c2 c3 go p S K else go (p + 1, (S, K)) := fun go => by
      unfold lb2_LP_joins_3
      rw [if_pos hK.k, l_pages hK hV, bnO_s, if_neg (by omega), hal, bnO_s]
      by_cases c : s1 p.toNat = true
      · rw [c, if_neg (by decide), nm_x, i1, if_pos rfl]
      · rw [Bool.eq_false_iff.mpr c, if_pos (c := bi false = 0) rfl, hK.fA, bnO_s, rfB_r, if_pos hK.kA, hg, bnO_s, rfB_r, if_pos kk, if_pos hK.k, hre, bnO_s, if_neg Bool.false_ne_true]
        show adC 0 0 _ = _
        rw [adC00]
        dsimp only
        by_cases c1 : reas W ad p = 0
        · rw [if_pos c1, if_pos (adj_or.mpr (.inl c1))]
        · rw [if_neg c1]
          by_cases c2 : reas W ad p = 6
          · rw [if_pos c2, if_pos (adj_or.mpr (.inr c2))]
          · rw [if_neg c2, nm_x, i1, if_neg (fun z => (adj_or.mp z).elim c1 c2)]
    have lpE : ∀ (go : Int × LZ → Option (((Bool × LZ) ⊕ (LZ)) × Nat × Nat)), go = lp (fun go p' => lb2_LP_joins_3 rc (pT P) ad c2 c3 go p'.1 p'.2.1 p'.2.2) N → lp (fun go p' => lb2_LP_joins_3 rc (pT P) ad c2 c3 go p'.1 p'.2.1 p'.2.2) (N + 1) (p, (S, K)) = lb2_LP_joins_3 rc (pT P) ad c2 c3 go p S K := fun go e => by rw [e]; rfl
    rw [lpE _ rfl, hun]
    by_cases c : s1 p.toNat = true
    · rw [if_pos c]
      exact next K s1 hs rfl hr hb (fun _ z => z) (fun _ => c) h3
    · rw [if_neg c]
      have c' : s1 p.toNat = false := Bool.eq_false_iff.mpr c
      by_cases ca : adjW W ad p = true
      · rw [if_pos ca]
        have hQp : Q p = false := by
          cases z : Q p with
          | false => rfl
          | true => exact absurd (h1 _ (hQ p hp.1 hp.2 z)) c
        obtain ⟨K1, e1, b1, cc1, w1⟩ := hb.put (w := p) ⟨by omega, by omega⟩
        obtain ⟨vb, hvb, -, -⟩ := hb
        have r1 : RowI K1 c2 65 w := hr.wj hvb (by decide) w1
        have s1f : Sf F0_ L0 K1 := hs.w w1 (.inr hc3)
        have hwp := hw p hp.1 hp.2
        have hai := r1.at (w := p) ⟨by omega, by omega⟩ (by unfold inR; omega)
        have sub : ∀ q, s1 q = true → (s1 q || decide (q = p.toNat)) = true := fun q hq => by rw [hq]; rfl
        have sp : (s1 p.toNat || decide (p.toNat = p.toNat)) = true := by rw [decide_eq_true rfl, Bool.or_true]
        unfold jf2_LP_joins_56_3
        rw [nz1, e1, bnO_s, hai, bnO_s]
        by_cases cw : w p.toNat < 0
        · have cw' : w p.toNat = -1 := by omega
          obtain ⟨K2, e2, r2, cc2, w2⟩ := r1.put (w := p) ⟨by omega, by omega⟩ ad
          obtain ⟨vi, hvi, -, -⟩ := r1
          rw [if_pos cw, e2, bnO_s]
          refine ⟨true, K2, _, _, by rw [if_pos rfl], s1f.w w2 (.inr hc2), by rw [w2.1, w1.1], r2, b1.wj hvi (by decide) w2, fun q hq => sub q (h1 q hq), .inl ⟨rfl, fun q q1 q2 => ?_, MtQ.give hp had hQp hA ca ((hM.out hp hQp).1 cw')⟩⟩
          show -1 ≤ (if q.toNat = p.toNat then ad else w q.toNat) ∧ (if q.toNat = p.toNat then ad else w q.toNat) < nA W
          have := hw q q1 q2
          split <;> omega
        · have hK1 := h0.sf0 s1f
          have un := unI_put hp c'
          have um := unI_mono (W := W) h1
          have hAb : A (w p.toNat) = true := by
            rcases hM.1 p hp.1 hp.2 hQp with z | z
            · omega
            · exact z.1
          obtain ⟨b, K3, w3, s3, e3, f1, f2, f3, f4, f5, f6⟩ := ih S K1 (w p.toNat) w (fun j => s1 j || decide (j = p.toNat)) (fun q => Q q || decide (q = p)) (fun x => A x && !decide (x = w p.toNat)) s1f r1 b1 ⟨by omega, hwp.2⟩ (by omega) hw ((hM.out hp hQp).2 (by omega)) (by
              show (A (w p.toNat) && !decide (w p.toNat = w p.toNat)) = false
              rw [decide_eq_true rfl]
              exact Bool.and_false _) (fun q q1 q2 q3 => by
              have q3 : (Q q || decide (q = p)) = true := q3
              show (s1 q.toNat || decide (q.toNat = p.toNat)) = true
              rw [Bool.or_eq_true] at q3
              rcases q3 with z | z
              · exact sub _ (h1 _ (hQ q q1 q2 z))
              · rw [of_decide_eq_true z, decide_eq_true rfl, Bool.or_true])
          rw [if_neg cw, bnO_s, if_pos hK1.k, e3, bnO_s]
          show ∃ b' K' w' s', adC 0 0 (if b = true then (bnO (ast K3 100 c2 p (V ad)) fun L19 => some (.inl (true, (S, L19)), 0, 0)) else (nm (wr (p + 1)) fun v20 => lp (fun go p' => lb2_LP_joins_3 rc (pT P) ad c2 c3 go p'.1 p'.2.1 p'.2.2) N (v20, (S, K3)))) = some ((if b' = true then .inl (true, (S, K')) else .inr (S, K')), 0, 0) ∧ _
          rw [adC00]
          rcases f6 with ⟨hb1, hb2, hb3⟩ | ⟨hb1, hb2, hb3, hb4⟩
          · obtain ⟨K4, e4, r4, cc4, w4⟩ := f3.put (w := p) ⟨by omega, by omega⟩ ad
            obtain ⟨vi, hvi, -, -⟩ := f3
            rw [if_pos hb1, e4, bnO_s]
            refine ⟨true, K4, _, s3, by rw [if_pos rfl], f1.w w4 (.inr hc2), by rw [w4.1, f2, w1.1], r4, f4.wj hvi (by decide) w4, fun q hq => f5 q (sub q (h1 q hq)), .inl ⟨rfl, fun q q1 q2 => ?_, MtQ.give hp had hQp hA ca (hb3.congr (fun y => ?_))⟩⟩
            · show -1 ≤ (if q.toNat = p.toNat then ad else w3 q.toNat) ∧ (if q.toNat = p.toNat then ad else w3 q.toNat) < nA W
              have := hb2 q q1 q2
              split <;> omega
            · show ((A y && !decide (y = w p.toNat)) || decide (y = w p.toNat)) = A y
              by_cases z : y = w p.toNat
              · rw [z, hAb, decide_eq_true rfl]; rfl
              · rw [decide_eq_false z, Bool.or_false]
                exact Bool.and_true _
          · rw [if_neg (by rw [hb1]; exact Bool.false_ne_true), nm_x, i1]
            rw [hb2] at f3
            refine next K3 s3 f1 (by rw [f2, w1.1]) f3 f4 (fun q hq => f5 q (sub q hq)) (fun _ => f5 _ sp) (fun q q1 q2 q3 q4 => ?_)
            by_cases z : (s1 q.toNat || decide (q.toNat = p.toNat)) = true
            · rw [Bool.or_eq_true] at z
              rcases z with z | z
              · have y := h3 q q1 q2 z q4
                exact ⟨y.1, fun q2 y1 y2 y3 => f5 _ (sub _ (y.2 q2 y1 y2 y3))⟩
              · have e : q = p := by have := of_decide_eq_true z; omega
                rw [e]
                exact ⟨by omega, hb3⟩
            · exact hb4 q q1 q2 q3 (Bool.eq_false_iff.mpr z)
      · rw [if_neg ca]
        exact next K s1 hs rfl hr hb (fun _ z => z) (fun z => absurd z ca) h3
theorem l_joins (h0 : HP L0 P W) (hV : Val W) (hc2 : nCell + L0.length ≤ c2) (hc3 : nCell + L0.length ≤ c3) : ∀ d : Nat, JnC (gr_LP_joins d) L0 P W c2 c3 d
  | 0 => fun S K ad w s Q A _ _ _ _ h _ _ _ _ => by
    have := unI_nn (W := W) (s := s)
    omega
  | d + 1 => fun S K ad w s Q A hs hr hb had hu hw hM hA hQ => by
    have pb := hV.pg
    obtain ⟨b, K', w', s', e, e1, e2, e3, e4, e5⟩ := jn_loop (S := S) h0 hV hc2 hc3 (l_joins h0 hV hc2 hc3 d) had (by omega) hw hM hA hQ (pgs W).toNat FU 1 K s (by omega) (Int.le_refl _) (FU_big (by omega)) hs hr hb (fun _ z => z) (fun q q1 q2 => by omega) (fun q _ _ q3 q4 => by rw [q3] at q4; cases q4)
    refine ⟨b, K', w', s', ?_, e1, e2, e3, e4, e5⟩
    show gb_LP_joins (gr_LP_joins d) (pT P) ad c2 c3 S K = _
    unfold gb_LP_joins
    rw [show lo2_LP_joins_3 (gr_LP_joins d) (pT P) ad c2 c3 FU (1, (S, K)) = _ from e]
    cases b <;> rfl
/-- the answer at the top: it is the class's -/
theorem jn_top {jn : (Int → Bool) → Int → Bool} (hj : JnW W jn) (hV : Val W) {w' : Nat → Int} {s' : Nat → Bool} {b : Bool} (had : 0 ≤ ad ∧ ad < nA W) (hw : WokJ W w) (hM : MtQ W w (fun _ => false) A) (hA : A ad = false) (h : PostJ W w w' (fun _ => false) s' (fun _ => false) A ad b) : b = jn A ad := by
  have bz := hV.z
  have pb := hV.pg
  obtain ⟨-, ⟨rfl, h2, h3⟩ | ⟨rfl, h2, h3, h4⟩⟩ := h
  · refine ((hj A ad).mpr ?_).symm
    have ex : ∀ a : Int, ∃ p : Int, 0 ≤ a → a < nA W → (A a || decide (a = ad)) = true → (1 ≤ p ∧ p ≤ pgs W) ∧ w' p.toNat = a := fun a => by
      by_cases c : 0 ≤ a ∧ a < nA W ∧ (A a || decide (a = ad)) = true
      · obtain ⟨p, p1, -, p3⟩ := h3.2.2 a c.1 c.2.1 c.2.2
        exact ⟨p, fun _ _ _ => ⟨p1, p3⟩⟩
      · exact ⟨0, fun y1 y2 y3 => absurd ⟨y1, y2, y3⟩ c⟩
    obtain ⟨m, hm⟩ := Classical.axiomOfChoice ex
    refine ⟨m, fun a a1 a2 a3 => ?_, fun a b a1 a2 b1 b2 ha hb e => ?_⟩
    · have z := hm a a1 a2 a3
      refine ⟨z.1, ?_⟩
      rcases h3.1 (m a) z.1.1 z.1.2 rfl with y | y
      · omega
      · have y2 := y.2
        rw [z.2] at y2
        exact y2
    · have za := hm a a1 a2 ha
      have zb := hm b b1 b2 hb
      rw [← za.2, ← zb.2, e]
  · cases e : jn A ad with
    | false => rfl
    | true =>
      obtain ⟨m, hm⟩ := (hj A ad).mp e
      refine absurd hm (no_match (R := fun a => decide (a = ad) || anyR (fun q => s' q.toNat && decide (w q.toNat = a)) 1 (pgs W).toNat) (P := fun q => s' q.toNat) (pt := fun q => w q.toNat) (a0 := ad) (by omega) (by omega) had ?_ (fun a a1 a2 hr => ?_) (fun a q a1 a2 hr q1 q2 hq => ?_) (fun q q1 q2 hr => ?_) (fun q q' q1 q2 q3 q4 hr hr' e => ?_))
      · show (decide (ad = ad) || _) = true
        rw [decide_eq_true rfl]; rfl
      · have hr : (decide (a = ad) || anyR (fun q => s' q.toNat && decide (w q.toNat = a)) 1 (pgs W).toNat) = true := hr
        show (A a || decide (a = ad)) = true
        rw [Bool.or_eq_true] at hr
        rcases hr with z | z
        · rw [z, Bool.or_true]
        · obtain ⟨q, q1, q2, q3⟩ := anyR_iff.mp z
          rw [Bool.and_eq_true] at q3
          have q4 := of_decide_eq_true q3.2
          have y := h4 q q1 (by omega) q3.1 rfl
          rcases hM.1 q q1 (by omega) rfl with x | x
          · omega
          · rw [q4] at x
            rw [x.1]; rfl
      · have hr : (decide (a = ad) || anyR (fun q => s' q.toNat && decide (w q.toNat = a)) 1 (pgs W).toNat) = true := hr
        show s' q.toNat = true
        rw [Bool.or_eq_true] at hr
        rcases hr with z | z
        · rw [of_decide_eq_true z] at hq
          exact h3 q q1 q2 hq
        · obtain ⟨q', q1', q2', q3'⟩ := anyR_iff.mp z
          rw [Bool.and_eq_true] at q3'
          have y := h4 q' q1' (by omega) q3'.1 rfl
          refine y.2 q q1 q2 ?_
          rw [of_decide_eq_true q3'.2]
          exact hq
      · have y := h4 q q1 q2 hr rfl
        have z := hw q q1 q2
        refine ⟨⟨y.1, z.2⟩, ?_, fun e => ?_⟩
        · show (decide (w q.toNat = ad) || anyR (fun q' => s' q'.toNat && decide (w q'.toNat = w q.toNat)) 1 (pgs W).toNat) = true
          rw [Bool.or_eq_true]
          exact .inr (anyR_iff.mpr ⟨q, q1, by omega, by rw [Bool.and_eq_true]; exact ⟨hr, decide_eq_true rfl⟩⟩)
        · rcases hM.1 q q1 q2 rfl with x | x
          · omega
          · have e : w q.toNat = ad := e
            rw [e, hA] at x
            exact absurd x.1 Bool.false_ne_true
      · have y := h4 q q1 q2 hr rfl
        exact hM.2.1 q q' q1 q2 q3 q4 rfl rfl e (by omega)
end Joins2
