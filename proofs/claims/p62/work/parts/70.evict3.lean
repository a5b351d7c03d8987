/-! eviction and cheapestPage -/
section Evict3
variable {S T : St} {W : Vw} {n : Int} {hs : Int → Vw} {a p : Int}
def sdB (W : Vw) (a p : Int) : Bool := anyR (fun i => sdR W a p i && prP W (at_ W 6 i)) 0 (nA W).toNat
def sdP (W : Vw) (a p i : Int) : Int := sumR (fun i => if sdR W a p i = true then at_ W 4 i else 0) 0 i.toNat
theorem sdP_bd (hV : Val W) {i : Int} (hi : 0 ≤ i ∧ i ≤ nA W) : 0 ≤ sdP W a p i ∧ sdP W a p i ≤ 39960 := by
  have b := hV.1.1
  have q := sumR_bd (w := fun i => if sdR W a p i = true then at_ W 4 i else 0) (l := 0) (h := 999) (n := i.toNat) (i := 0) (fun j h1 h2 => by
    have v := hV.2.1 j h1 (by omega)
    show 0 ≤ (if sdR W a p j = true then at_ W 4 j else 0) ∧ (if sdR W a p j = true then at_ W 4 j else 0) ≤ 999
    split <;> omega)
  unfold sdP
  omega
theorem sR2_bd (hV : Val W) {m r : Int → Bool} {i q : Int} {w : Int → Int} (hi : 0 ≤ i ∧ i ≤ nA W) (hw : ∀ j, 0 ≤ j → j < nA W → 0 ≤ w j ∧ w j ≤ q) (hq : 0 ≤ q) : 0 ≤ sR2 m r w i ∧ sR2 m r w i ≤ 40 * q := by
  have b := hV.1.1
  have z := sumR_bd (w := fun x => if (m x && r x) = true then w x else 0) (l := 0) (h := q) (n := i.toNat) (i := 0) (fun j h1 h2 => by
    have v := hw j h1 (by omega)
    show 0 ≤ (if (m j && r j) = true then w j else 0) ∧ (if (m j && r j) = true then w j else 0) ≤ q
    split <;> omega)
  unfold sR2
  have mm : ((i.toNat : Nat) : Int) * q ≤ 40 * q := Int.mul_le_mul_of_nonneg_right (by omega) hq
  omega
theorem sR2_s {m r : Int → Bool} {i : Int} {w : Int → Int} (hi : 0 ≤ i) : sR2 m r w (i + 1) = sR2 m r w i + (if (m i && r i) = true then w i else 0) := by
  unfold sR2
  rw [show (i + 1).toNat = i.toNat + 1 by omega, sumR_snoc, show (0 : Int) + ((i.toNat : Nat) : Int) = i by omega]
theorem sdP_s {i : Int} (hi : 0 ≤ i) : sdP W a p (i + 1) = sdP W a p i + (if sdR W a p i = true then at_ W 4 i else 0) := by
  unfold sdP
  rw [show (i + 1).toNat = i.toNat + 1 by omega, sumR_snoc, show (0 : Int) + ((i.toNat : Nat) : Int) = i by omega]
theorem ev_side (h : PT S 5 W) (hG : Good W) (ha : 0 ≤ a ∧ a < nA W) (hp : 1 ≤ p ∧ p ≤ pgs W) : fn_Searches_rivalPricesBeside 505 a p S = some (if sdB W a p = true then -1 else sdP W a p (nA W)) := by
  have b := h.pl.b
  have bd := sdP_bd hG.1 (a := a) (p := p) (i := nA W) ⟨by omega, Int.le_refl _⟩
  have q : lo_Searches_rivalPricesBeside_5 505 a p S FU (0, 0) = _ := lp_sumx (body := fun go p0 => lb_Searches_rivalPricesBeside_5 505 a p S go p0.1 p0.2) (fun i => sdR W a p i && prP W (at_ W 6 i)) (-1) (fun i => if sdR W a p i = true then at_ W 4 i else 0) 0 (nA W)
    (fun go z i hi => by
      show lb_Searches_rivalPricesBeside_5 505 a p S go z i = _
      have e7 : g S 7 7 = nA W := h.pl.mA
      unfold lb_Searches_rivalPricesBeside_5
      rw [tg_505_1, tg_6_0, e7, if_pos hi])
    (fun go z i hz i0 i1 => by
      show lb_Searches_rivalPricesBeside_5 505 a p S go z i = _
      have e7 : g S 7 7 = nA W := h.pl.mA
      have x6 : g S 14 i.toNat = at_ W 6 i := h.pl.a6 ⟨i0, i1⟩
      have x4 : g S 12 i.toNat = at_ W 4 i := h.pl.a4 ⟨i0, i1⟩
      have v := h.v.2.1 i i0 i1
      have eR := F_rivals h ha (b := i) ⟨i0, i1⟩
      have no : ∀ go : Int × Int → Option (Int ⊕ Int), ¬ sdR W a p i = true → go (z, i + 1) = if (sdR W a p i && prP W (at_ W 6 i)) = true then some (.inl (-1)) else go (wr (z + if sdR W a p i = true then at_ W 4 i else 0), i + 1) := fun go hn => by
        rw [if_neg hn, Int.add_zero, wr_id hz, if_neg (by rw [Bool.and_eq_true]; exact fun e => hn e.1)]
      unfold lb_Searches_rivalPricesBeside_5
      simp only [tg_505_1, tg_6_0, e7, tg_7_6, tg_7_4, x6, x4, nm_x, wr_s (z := i + 1) (by omega) (by omega), eR, bnO_s]
      rw [if_neg (by omega : ¬ nA W ≤ i), if_pos (by omega : 0 ≤ i ∧ i < 40), td_n (a := p) (by omega), td_n (a := at_ W 6 i) (by omega), wr_s (z := p / 2) (by omega) (by omega), wr_s (z := at_ W 6 i / 2) (by omega) (by omega)]
      by_cases c1 : at_ W 6 i = 0
      · rw [if_pos c1]
        exact no go (by unfold sdR; rw [decide_eq_false (fun e => e.2.1 c1), Bool.false_and]; exact Bool.false_ne_true)
      · rw [if_neg c1]
        by_cases c2 : at_ W 6 i = p
        · rw [if_pos c2]
          exact no go (by unfold sdR; rw [decide_eq_false (fun e => e.2.2.1 c2), Bool.false_and]; exact Bool.false_ne_true)
        · rw [if_neg c2]
          by_cases c3 : at_ W 6 i / 2 = p / 2
          · rw [if_pos c3]
            by_cases c4 : a ≠ i ∧ at_ W 1 a ≠ 0 ∧ at_ W 1 a = at_ W 1 i
            · have es : sdR W a p i = true := by
                unfold sdR rvG
                rw [decide_eq_true ⟨fun e => c4.1 e.symm, c1, c2, c3⟩, decide_eq_true ⟨c4.2.1, c4.2.2.symm⟩]; rfl
              rw [if_pos (decide_eq_true c4), tg_505_0, P_isPrinted1 h.pl (by omega) (by omega), bnO_s, es, Bool.true_and, if_pos rfl]
            · rw [if_neg (by rw [decide_eq_true_eq]; exact c4)]
              refine no go (fun e => c4 ?_)
              unfold sdR rvG at e
              rw [Bool.and_eq_true, decide_eq_true_eq, decide_eq_true_eq] at e
              exact ⟨fun z => e.1.1 z.symm, e.2.1, e.2.2.symm⟩
          · rw [if_neg c3]
            refine no go (fun e => c3 ?_)
            unfold sdR at e
            rw [Bool.and_eq_true, decide_eq_true_eq] at e
            exact e.1.2.2.2) (inRk rfl) (FU_lt (by omega))
  have e1 : anyR (fun i => sdR W a p i && prP W (at_ W 6 i)) 0 (nA W - 0).toNat = sdB W a p := by rw [Int.sub_zero]; rfl
  have e2 : sumR (fun i => if sdR W a p i = true then at_ W 4 i else 0) 0 (nA W - 0).toNat = sdP W a p (nA W) := by rw [Int.sub_zero]; rfl
  rw [e1, e2, Int.zero_add, wr_s (by omega) (by omega)] at q
  unfold fn_Searches_rivalPricesBeside
  rw [q]
  cases sdB W a p <;> rfl
/-! the reference -/
def flg (W : Vw) (a p x : Int) : Bool := (sdR W a p x || (inP W a p x && rvG W a x)) && prP W (at_ W 6 x)
def EvI (W : Vw) (a p R : Int) (T0 : St) (i a3 a4 a5 a6 : Int) (T : St) : Prop := 0 ≤ i ∧ a3 = R + sR2 (inP W a p) (rvG W a) (at_ W 0) i ∧ a4 = sdP W a p i + sR2 (inP W a p) (rvG W a) (at_ W 4) i ∧ a6 = bi (anyR (flg W a p) 0 i.toNat) ∧ LsI T0 T 517 (fun x => inP W a p x && !rvG W a x) i a5
theorem EvI.next {R : Int} {T0 : St} {i a3 a4 a5 a6 : Int} {T : St} (h : EvI W a p R T0 i a3 a4 a5 a6 T) (hn : (inP W a p i && !rvG W a i) = false) : EvI W a p R T0 (i + 1) (a3 + (if (inP W a p i && rvG W a i) = true then at_ W 0 i else 0)) (a4 + (if sdR W a p i = true then at_ W 4 i else 0) + (if (inP W a p i && rvG W a i) = true then at_ W 4 i else 0)) a5 (i_or a6 (bi (flg W a p i))) T := by
  obtain ⟨h0, h3, h4, h6, hL⟩ := h
  refine ⟨by omega, by rw [sR2_s h0, h3]; omega, by rw [sdP_s h0, sR2_s h0, h4]; omega, ?_, hL.skip hn⟩
  rw [show (i + 1).toNat = i.toNat + 1 by omega, anyR_snoc, show (0 : Int) + ((i.toNat : Nat) : Int) = i by omega, h6, i_orb]
theorem EvI.add {R : Int} {T0 : St} {i a3 a4 a5 a6 : Int} {T : St} (h : EvI W a p R T0 i a3 a4 a5 a6 T) (hn : (inP W a p i && !rvG W a i) = true) (hi : i < 1000) (hk : a5 < 1000) (hs : sdR W a p i = false) : EvI W a p R T0 (i + 1) a3 a4 (a5 + 1) a6 (u T 517 a5.toNat i) := by
  obtain ⟨h0, h3, h4, h6, hL⟩ := h
  have e : (inP W a p i && rvG W a i) = false := by
    cases c1 : inP W a p i
    · rfl
    · cases c2 : rvG W a i
      · rfl
      · rw [c1, c2] at hn; exact absurd hn Bool.false_ne_true
  have ef : flg W a p i = false := by unfold flg; rw [e, hs]; rfl
  refine ⟨by omega, by rw [sR2_s h0, e, if_neg Bool.false_ne_true, h3]; omega, by rw [sdP_s h0, sR2_s h0, e, hs, if_neg Bool.false_ne_true, h4]; omega, ?_, hL.add hn hi hk⟩
  rw [show (i + 1).toNat = i.toNat + 1 by omega, anyR_snoc, show (0 : Int) + ((i.toNat : Nat) : Int) = i by omega, h6, ef, Bool.or_false]
theorem i_or_bf {b : Bool} : i_or (bi b) (bi false) = bi b := by rw [i_orb, Bool.or_false]
end Evict3

