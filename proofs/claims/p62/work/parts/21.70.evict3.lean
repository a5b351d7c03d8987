/-! eviction and cheapestPage -/
section Evict3
variable {S T : St} {W : Vw} {n : Int} {hs : Int → Vw} {a p : Int}
theorem MV.o6 {T' : St} (h : MV T W) (o : Off T T' 516 522) : MV T' W := by
  refine ⟨?_, h.2⟩
  rw [← h.1]
  have e5 : g T' 515 = g T 515 := by funext f; exact o.rd (by omega)
  have e4 : g T' 514 = g T 514 := by funext f; exact o.rd (by omega)
  unfold vM
  rw [e5, e4]
theorem RM.o6 {T0 T' : St} (h : RM T0 T W n hs) (o : Off T T' 516 522) : RM T0 T' W n hs :=
  ⟨h.1.trans ⟨o.mono (by omega) (by omega), fun f _ _ => o.rd (by omega)⟩, by rw [o.rd (by omega)]; exact h.2.1, h.2.2.1.o6 o, h.2.2.2.low (o.rd (by omega)) (o.rd (by omega)) (o.rd (by omega)) (fun f _ => o.rd (by omega))⟩
def sdB (W : Vw) (a p : Int) : Bool := anyR (fun i => sdR W a p i && prP W (at_ W 6 i)) 0 (nA W).toNat
def sdP (W : Vw) (a p i : Int) : Int := sumR (fun i => if sdR W a p i = true then at_ W 4 i else 0) 0 i.toNat
theorem sdP_bd (hV : Val W) {i : Int} (hi : 0 ≤ i ∧ i ≤ nA W) : 0 ≤ sdP W a p i ∧ sdP W a p i ≤ 39960 := by
  have b := hV.1.1
  have q := sumR_bd (w := fun i => if sdR W a p i = true then at_ W 4 i else 0) (l := 0) (h := 999) (n := i.toNat) (i := 0) (fun j h1 h2 => by
    have v := hV.2.1 j h1 (by omega)
    show 0 ≤ (if sdR W a p j = true then at_ W 4 j else 0) ∧ (if sdR W a p j = true then at_ W 4 j else 0) ≤ 999
    split <;> omega)
  unfold sdP
  omega
theorem sR2_bd (hV : Val W) {m r : Int → Bool} {i q : Int} {w : Int → Int} (hi : 0 ≤ i ∧ i ≤ nA W) (hw : ∀ j, 0 ≤ j → j < nA W → 0 ≤ w j ∧ w j ≤ q) (hq : 0 ≤ q) : 0 ≤ sR2 m r w i ∧ sR2 m r w i ≤ 40 * q := by
  have b := hV.1.1
  have z := sumR_bd (w := fun x => if (m x && r x) = true then w x else 0) (l := 0) (h := q) (n := i.toNat) (i := 0) (fun j h1 h2 => by
    have v := hw j h1 (by omega)
    show 0 ≤ (if (m j && r j) = true then w j else 0) ∧ (if (m j && r j) = true then w j else 0) ≤ q
    split <;> omega)
  unfold sR2
  have mm : ((i.toNat : Nat) : Int) * q ≤ 40 * q := Int.mul_le_mul_of_nonneg_right (by omega) hq
  omega
theorem sR2_s {m r : Int → Bool} {i : Int} {w : Int → Int} (hi : 0 ≤ i) : sR2 m r w (i + 1) = sR2 m r w i + (if (m i && r i) = true then w i else 0) := by
  unfold sR2
  rw [show (i + 1).toNat = i.toNat + 1 by omega, sumR_snoc, show (0 : Int) + ((i.toNat : Nat) : Int) = i by omega]
theorem sdP_s {i : Int} (hi : 0 ≤ i) : sdP W a p (i + 1) = sdP W a p i + (if sdR W a p i = true then at_ W 4 i else 0) := by
  unfold sdP
  rw [show (i + 1).toNat = i.toNat + 1 by omega, sumR_snoc, show (0 : Int) + ((i.toNat : Nat) : Int) = i by omega]
theorem ev_side (h : PT S 5 W) (hG : Good W) (ha : 0 ≤ a ∧ a < nA W) (hp : 1 ≤ p ∧ p ≤ pgs W) : fn_Searches_rivalPricesBeside 505 a p S = some (if sdB W a p = true then -1 else sdP W a p (nA W)) := by
  have b := h.pl.b
  have bd := sdP_bd hG.1 (a := a) (p := p) (i := nA W) ⟨by omega, Int.le_refl _⟩
  have q : lo_Searches_rivalPricesBeside_5 505 a p S FU (0, 0) = _ := lp_sumx (body := fun go p0 => lb_Searches_rivalPricesBeside_5 505 a p S go p0.1 p0.2) (fun i => sdR W a p i && prP W (at_ W 6 i)) (-1) (fun i => if sdR W a p i = true then at_ W 4 i else 0) 0 (nA W)
    (fun go z i hi => by
      show lb_Searches_rivalPricesBeside_5 505 a p S go z i = _
      have e7 : g S 7 7 = nA W := h.pl.mA
      unfold lb_Searches_rivalPricesBeside_5
      rw [tg_505_1, tg_6_0, e7, if_pos hi])
    (fun go z i hz i0 i1 => by
      show lb_Searches_rivalPricesBeside_5 505 a p S go z i = _
      have e7 : g S 7 7 = nA W := h.pl.mA
      have x6 : g S 14 i.toNat = at_ W 6 i := h.pl.a6 ⟨i0, i1⟩
      have x4 : g S 12 i.toNat = at_ W 4 i := h.pl.a4 ⟨i0, i1⟩
      have v := h.v.2.1 i i0 i1
      have eR := F_rivals h ha (b := i) ⟨i0, i1⟩
      have no : ∀ go : Int × Int → Option (Int ⊕ Int), ¬ sdR W a p i = true → go (z, i + 1) = if (sdR W a p i && prP W (at_ W 6 i)) = true then some (.inl (-1)) else go (wr (z + if sdR W a p i = true then at_ W 4 i else 0), i + 1) := fun go hn => by
        rw [if_neg hn, Int.add_zero, wr_id hz, if_neg (by rw [Bool.and_eq_true]; exact fun e => hn e.1)]
      unfold lb_Searches_rivalPricesBeside_5
      simp only [tg_505_1, tg_6_0, e7, tg_7_6, tg_7_4, x6, x4, nm_x, wr_s (z := i + 1) (by omega) (by omega), eR, bnO_s]
      rw [if_neg (by omega : ¬ nA W ≤ i), if_pos (by omega : 0 ≤ i ∧ i < 40), td_n (a := p) (by omega), td_n (a := at_ W 6 i) (by omega), wr_s (z := p / 2) (by omega) (by omega), wr_s (z := at_ W 6 i / 2) (by omega) (by omega)]
      by_cases c1 : at_ W 6 i = 0
      · rw [if_pos c1]
        exact no go (by unfold sdR; rw [decide_eq_false (fun e => e.2.1 c1), Bool.false_and]; exact Bool.false_ne_true)
      · rw [if_neg c1]
        by_cases c2 : at_ W 6 i = p
        · rw [if_pos c2]
          exact no go (by unfold sdR; rw [decide_eq_false (fun e => e.2.2.1 c2), Bool.false_and]; exact Bool.false_ne_true)
        · rw [if_neg c2]
          by_cases c3 : at_ W 6 i / 2 = p / 2
          · rw [if_pos c3]
            by_cases c4 : a ≠ i ∧ at_ W 1 a ≠ 0 ∧ at_ W 1 a = at_ W 1 i
            · have es : sdR W a p i = true := by
                unfold sdR rvG
                rw [decide_eq_true ⟨fun e => c4.1 e.symm, c1, c2, c3⟩, decide_eq_true ⟨c4.2.1, c4.2.2.symm⟩]; rfl
              rw [if_pos (decide_eq_true c4), tg_505_0, P_isPrinted1 h.pl (by omega) (by omega), bnO_s, es, Bool.true_and, if_pos rfl]
            · rw [if_neg (by rw [decide_eq_true_eq]; exact c4)]
              refine no go (fun e => c4 ?_)
              unfold sdR rvG at e
              rw [Bool.and_eq_true, decide_eq_true_eq, decide_eq_true_eq] at e
              exact ⟨fun z => e.1.1 z.symm, e.2.1, e.2.2.symm⟩
          · rw [if_neg c3]
            refine no go (fun e => c3 ?_)
            unfold sdR at e
            rw [Bool.and_eq_true, decide_eq_true_eq] at e
            exact e.1.2.2.2) (inRk rfl) (FU_lt (by omega))
  have e1 : anyR (fun i => sdR W a p i && prP W (at_ W 6 i)) 0 (nA W - 0).toNat = sdB W a p := by rw [Int.sub_zero]; rfl
  have e2 : sumR (fun i => if sdR W a p i = true then at_ W 4 i else 0) 0 (nA W - 0).toNat = sdP W a p (nA W) := by rw [Int.sub_zero]; rfl
  rw [e1, e2, Int.zero_add, wr_s (by omega) (by omega)] at q
  unfold fn_Searches_rivalPricesBeside
  rw [q]
  cases sdB W a p <;> rfl
/-! the reference -/
def flg (W : Vw) (a p x : Int) : Bool := (sdR W a p x || (inP W a p x && rvG W a x)) && prP W (at_ W 6 x)
def EvI (W : Vw) (a p R : Int) (T0 : St) (i a3 a4 a5 a6 : Int) (T : St) : Prop := 0 ≤ i ∧ a3 = R + sR2 (inP W a p) (rvG W a) (at_ W 0) i ∧ a4 = sdP W a p i + sR2 (inP W a p) (rvG W a) (at_ W 4) i ∧ a6 = bi (anyR (flg W a p) 0 i.toNat) ∧ LsI T0 T 517 (fun x => inP W a p x && !rvG W a x) i a5
theorem EvI.next {R : Int} {T0 : St} {i a3 a4 a5 a6 : Int} {T : St} (h : EvI W a p R T0 i a3 a4 a5 a6 T) (hn : (inP W a p i && !rvG W a i) = false) : EvI W a p R T0 (i + 1) (a3 + (if (inP W a p i && rvG W a i) = true then at_ W 0 i else 0)) (a4 + (if sdR W a p i = true then at_ W 4 i else 0) + (if (inP W a p i && rvG W a i) = true then at_ W 4 i else 0)) a5 (i_or a6 (bi (flg W a p i))) T := by
  obtain ⟨h0, h3, h4, h6, hL⟩ := h
  refine ⟨by omega, by rw [sR2_s h0, h3]; omega, by rw [sdP_s h0, sR2_s h0, h4]; omega, ?_, hL.skip hn⟩
  rw [show (i + 1).toNat = i.toNat + 1 by omega, anyR_snoc, show (0 : Int) + ((i.toNat : Nat) : Int) = i by omega, h6, i_orb]
theorem EvI.add {R : Int} {T0 : St} {i a3 a4 a5 a6 : Int} {T : St} (h : EvI W a p R T0 i a3 a4 a5 a6 T) (hn : (inP W a p i && !rvG W a i) = true) (hi : i < 1000) (hk : a5 < 1000) (hs : sdR W a p i = false) : EvI W a p R T0 (i + 1) a3 a4 (a5 + 1) a6 (u T 517 a5.toNat i) := by
  obtain ⟨h0, h3, h4, h6, hL⟩ := h
  have e : (inP W a p i && rvG W a i) = false := by
    cases c1 : inP W a p i
    · rfl
    · cases c2 : rvG W a i
      · rfl
      · rw [c1, c2] at hn; exact absurd hn Bool.false_ne_true
  have ef : flg W a p i = false := by unfold flg; rw [e, hs]; rfl
  refine ⟨by omega, by rw [sR2_s h0, e, if_neg Bool.false_ne_true, h3]; omega, by rw [sdP_s h0, sR2_s h0, e, hs, if_neg Bool.false_ne_true, h4]; omega, ?_, hL.add hn hi hk⟩
  rw [show (i + 1).toNat = i.toNat + 1 by omega, anyR_snoc, show (0 : Int) + ((i.toNat : Nat) : Int) = i by omega, h6, ef, Bool.or_false]
theorem i_or_bf {b : Bool} : i_or (bi b) (bi false) = bi b := by rw [i_orb, Bool.or_false]
theorem ev_scan {T0 : St} (hM0 : MV T0 W) (hG : Good W) (ha : 0 ≤ a ∧ a < nA W) (hp : 1 ≤ p ∧ p ≤ pgs W) {R : Int} (hR : 0 ≤ R ∧ R ≤ 8) : ∃ a3 a4 a5 a6 T', lo_Mo_evictionOf_71 514 a p FU (R, 0, 0, 0, 0, T0) = some (a3, a4, a5, a6, T') ∧ EvI W a p R T0 (nA W) a3 a4 a5 a6 T' := by
  have b := hM0.b
  obtain ⟨s', e, hI⟩ := lp_inv (body := fun go p0 => lb_Mo_evictionOf_71 514 a p go p0.1 p0.2.1 p0.2.2.1 p0.2.2.2.1 p0.2.2.2.2.1 p0.2.2.2.2.2) (fun i (s : Int × Int × Int × Int × St) => (s.1, s.2.1, s.2.2.1, s.2.2.2.1, i, s.2.2.2.2)) (fun s => s)
    (fun i s => EvI W a p R T0 i s.1 s.2.1 s.2.2.1 s.2.2.2.1 s.2.2.2.2) (nA W)
    (fun go i s hI hi => by
      show lb_Mo_evictionOf_71 514 a p go s.1 s.2.1 s.2.2.1 s.2.2.2.1 i s.2.2.2.2 = _
      have hM := hM0.o6 (hI.2.2.2.2.2.1.mono (by omega) (by omega))
      unfold lb_Mo_evictionOf_71
      rw [tg_514_0, hM.mA, if_pos hi])
    (fun go i s hI hi => by
      have i0 := hI.1
      have hM := hM0.o6 (hI.2.2.2.2.2.1.mono (by omega) (by omega))
      have v := hG.1.2.1 i i0 hi
      have e6 : fn_Mo_ofAd 514 i 6 s.2.2.2.2 = some (at_ W 6 i) := Mo_ofAd hM (k := 6) (by omega) ⟨i0, hi⟩
      have e1 : fn_Mo_ofAd 514 i 1 s.2.2.2.2 = some (at_ W 1 i) := Mo_ofAd hM (k := 1) (by omega) ⟨i0, hi⟩
      have e0 : fn_Mo_ofAd 514 i 0 s.2.2.2.2 = some (at_ W 0 i) := Mo_ofAd hM (k := 0) (by omega) ⟨i0, hi⟩
      have e4 : fn_Mo_ofAd 514 i 4 s.2.2.2.2 = some (at_ W 4 i) := Mo_ofAd hM (k := 4) (by omega) ⟨i0, hi⟩
      have ea : fn_Mo_ofAd 514 a 1 s.2.2.2.2 = some (at_ W 1 a) := Mo_ofAd hM (k := 1) (by omega) ha
      have b3 := sR2_bd hG.1 (m := inP W a p) (r := rvG W a) (i := i) (q := 4) (w := at_ W 0) ⟨i0, by omega⟩ (fun j j0 j1 => by have := hG.1.2.1 j j0 j1; omega) (by decide)
      have b4 := sR2_bd hG.1 (m := inP W a p) (r := rvG W a) (i := i) (q := 999) (w := at_ W 4) ⟨i0, by omega⟩ (fun j j0 j1 => by have := hG.1.2.1 j j0 j1; omega) (by decide)
      have b5 := sdP_bd hG.1 (a := a) (p := p) (i := i) ⟨i0, by omega⟩
      have E3 := hI.2.1
      have E4 := hI.2.2.1
      have E6 := hI.2.2.2.1
      -- nothing of it
      have skip : inP W a p i = false → sdR W a p i = false → EvI W a p R T0 (i + 1) s.1 s.2.1 s.2.2.1 s.2.2.2.1 s.2.2.2.2 := fun h1 h2 => by
        have q := hI.next (by rw [h1]; rfl)
        have ef : flg W a p i = false := by unfold flg; rw [h1, h2]; rfl
        rw [h1, h2, ef, Bool.false_and, if_neg Bool.false_ne_true, if_neg Bool.false_ne_true, Int.add_zero, Int.add_zero, Int.add_zero, E6, i_or_bf, ← E6] at q
        exact q
      have body : ∀ r : Option (Int × Int × Int × Int × St), (r = if i = a then go (s.1, s.2.1, s.2.2.1, s.2.2.2.1, i + 1, s.2.2.2.2) else if at_ W 6 i = 0 then go (s.1, s.2.1, s.2.2.1, s.2.2.2.1, i + 1, s.2.2.2.2) else if at_ W 6 i / 2 = p / 2 then (if at_ W 1 a = 0 then (if at_ W 6 i = p then (if 0 ≤ s.2.2.1 ∧ s.2.2.1 < 4 then go (s.1, s.2.1, wr (s.2.2.1 + 1), s.2.2.2.1, i + 1, u s.2.2.2.2 517 s.2.2.1.toNat i) else none) else go (s.1, s.2.1, s.2.2.1, s.2.2.2.1, i + 1, s.2.2.2.2)) else (if at_ W 1 i = at_ W 1 a then (if at_ W 6 i = p then go (wr (s.1 + at_ W 0 i), wr (s.2.1 + at_ W 4 i), s.2.2.1, i_or s.2.2.2.1 (bi (prP W (at_ W 6 i))), i + 1, s.2.2.2.2) else go (wr (s.1 + 0), wr (s.2.1 + at_ W 4 i), s.2.2.1, i_or s.2.2.2.1 (bi (prP W (at_ W 6 i))), i + 1, s.2.2.2.2)) else (if at_ W 6 i = p then (if 0 ≤ s.2.2.1 ∧ s.2.2.1 < 4 then go (s.1, s.2.1, wr (s.2.2.1 + 1), s.2.2.2.1, i + 1, u s.2.2.2.2 517 s.2.2.1.toNat i) else none) else go (s.1, s.2.1, s.2.2.1, s.2.2.2.1, i + 1, s.2.2.2.2)))) else go (s.1, s.2.1, s.2.2.1, s.2.2.2.1, i + 1, s.2.2.2.2)) → lb_Mo_evictionOf_71 514 a p go s.1 s.2.1 s.2.2.1 s.2.2.2.1 i s.2.2.2.2 = r := fun r hr => by
        rw [hr]
        unfold lb_Mo_evictionOf_71
        rw [tg_514_0, hM.mA, if_neg (by omega : ¬ nA W ≤ i), e6, bnO_s]
        by_cases z : i = a
        · rw [if_pos z, if_pos z, nm_x, wr_s (z := i + 1) (by omega) (by omega)]
        · rw [if_neg z, if_neg z]
          by_cases z0 : at_ W 6 i = 0
          · rw [if_pos z0, if_pos z0, nm_x, wr_s (z := i + 1) (by omega) (by omega)]
          · have ep : fn_Mo_isPrinted 514 (at_ W 6 i) s.2.2.2.2 = some (prP W (at_ W 6 i)) := Mo_isPrinted hM ⟨by omega, by omega⟩
            rw [if_neg z0, if_neg z0]
            simp only [nm_x, ea, e1, e4, e0, ep, bnO_s, tg_514_6, wr_s (z := i + 1) (by omega) (by omega), td_n (a := p) (b := 2) (by omega), td_n (a := at_ W 6 i) (b := 2) (by omega), wr_s (z := p / 2) (by omega) (by omega), wr_s (z := at_ W 6 i / 2) (by omega) (by omega)]
      have four : (inP W a p i && !rvG W a i) = true → s.2.2.1 < 4 := fun hc => by
        have q1 := hI.2.2.2.2.add hc (by omega) (by
          have := ls_4 hG hp (a := a) (fun x hx => by rw [Bool.and_eq_true] at hx; exact hx.1) hI.2.2.2.2 (by omega)
          omega)
        have q2 := ls_4 hG hp (a := a) (fun x hx => by rw [Bool.and_eq_true] at hx; exact hx.1) q1 (by omega)
        omega
      have ki := hI.2.2.2.2.1.2
      by_cases c1 : i = a
      · exact ⟨s, body _ (by rw [if_pos c1]), skip (decide_eq_false (fun e => e.1 c1)) (by unfold sdR; rw [decide_eq_false (fun e => e.1 c1), Bool.false_and])⟩
      · by_cases c2 : at_ W 6 i = 0
        · exact ⟨s, body _ (by rw [if_neg c1, if_pos c2]), skip (decide_eq_false (fun e => by have := e.2; omega)) (by unfold sdR; rw [decide_eq_false (fun e => e.2.1 c2), Bool.false_and])⟩
        · by_cases c3 : at_ W 6 i / 2 = p / 2
          · by_cases c4 : at_ W 6 i = p
            · have ip : inP W a p i = true := decide_eq_true ⟨c1, c4⟩
              have sd : sdR W a p i = false := by unfold sdR; rw [decide_eq_false (fun e => e.2.2.1 c4), Bool.false_and]
              cases c5 : rvG W a i
              · have hc : (inP W a p i && !rvG W a i) = true := by rw [ip, c5]; rfl
                have k4 := four hc
                have q := hI.add hc (by omega) (by omega) sd
                refine ⟨(s.1, s.2.1, s.2.2.1 + 1, s.2.2.2.1, u s.2.2.2.2 517 s.2.2.1.toNat i), body _ ?_, q⟩
                rw [if_neg c1, if_neg c2, if_pos c3]
                have nr : ¬ (at_ W 1 a ≠ 0 ∧ at_ W 1 i = at_ W 1 a) := of_decide_eq_false c5
                by_cases c6 : at_ W 1 a = 0
                · rw [if_pos c6, if_pos c4, if_pos ⟨ki, k4⟩, wr_s (z := s.2.2.1 + 1) (by omega) (by omega)]
                · rw [if_neg c6, if_neg (fun e => nr ⟨c6, e⟩), if_pos c4, if_pos ⟨ki, k4⟩, wr_s (z := s.2.2.1 + 1) (by omega) (by omega)]
              · have rr : at_ W 1 a ≠ 0 ∧ at_ W 1 i = at_ W 1 a := of_decide_eq_true c5
                have q := hI.next (by rw [ip, c5]; rfl)
                have ef : flg W a p i = prP W (at_ W 6 i) := by unfold flg; rw [ip, c5, sd]; rfl
                rw [ip, c5, sd, ef, if_neg Bool.false_ne_true, Bool.true_and, if_pos rfl, if_pos rfl, Int.add_zero] at q
                refine ⟨(s.1 + at_ W 0 i, s.2.1 + at_ W 4 i, s.2.2.1, i_or s.2.2.2.1 (bi (prP W (at_ W 6 i))), s.2.2.2.2), body _ ?_, q⟩
                rw [if_neg c1, if_neg c2, if_pos c3, if_neg rr.1, if_pos rr.2, if_pos c4, wr_s (z := s.1 + at_ W 0 i) (by omega) (by omega), wr_s (z := s.2.1 + at_ W 4 i) (by omega) (by omega)]
            · have ip : inP W a p i = false := decide_eq_false (fun e => c4 e.2)
              cases c5 : rvG W a i
              · have sd : sdR W a p i = false := by unfold sdR; rw [c5, Bool.and_false]
                refine ⟨s, body _ ?_, skip ip sd⟩
                have nr : ¬ (at_ W 1 a ≠ 0 ∧ at_ W 1 i = at_ W 1 a) := of_decide_eq_false c5
                rw [if_neg c1, if_neg c2, if_pos c3]
                by_cases c6 : at_ W 1 a = 0
                · rw [if_pos c6, if_neg c4]
                · rw [if_neg c6, if_neg (fun e => nr ⟨c6, e⟩), if_neg c4]
              · have rr : at_ W 1 a ≠ 0 ∧ at_ W 1 i = at_ W 1 a := of_decide_eq_true c5
                have sd : sdR W a p i = true := by unfold sdR; rw [c5, decide_eq_true ⟨c1, c2, c4, c3⟩]; rfl
                have q := hI.next (by rw [ip]; rfl)
                have ef : flg W a p i = prP W (at_ W 6 i) := by unfold flg; rw [ip, sd]; rfl
                rw [ip, sd, ef, if_pos rfl, Bool.false_and, if_neg Bool.false_ne_true, if_neg Bool.false_ne_true, Int.add_zero, Int.add_zero] at q
                refine ⟨(s.1, s.2.1 + at_ W 4 i, s.2.2.1, i_or s.2.2.2.1 (bi (prP W (at_ W 6 i))), s.2.2.2.2), body _ ?_, q⟩
                rw [if_neg c1, if_neg c2, if_pos c3, if_neg rr.1, if_pos rr.2, if_neg c4, Int.add_zero, wr_s (z := s.1) (by omega) (by omega), wr_s (z := s.2.1 + at_ W 4 i) (by omega) (by omega)]
          · have ip : inP W a p i = false := decide_eq_false (fun e => c3 (by rw [e.2]))
            have sd : sdR W a p i = false := by unfold sdR; rw [decide_eq_false (fun e => c3 e.2.2.2), Bool.false_and]
            exact ⟨s, body _ (by rw [if_neg c1, if_neg c2, if_neg c3]), skip ip sd⟩)
    (nA W - 0).toNat FU 0 (R, 0, 0, 0, T0) ⟨Int.le_refl _, by show R = R + 0; omega, rfl, rfl, LsI.zero⟩ (by omega) rfl (FU_lt (by omega))
  exact ⟨s'.1, s'.2.1, s'.2.2.1, s'.2.2.2.1, s'.2.2.2.2, e, hI⟩
end Evict3
