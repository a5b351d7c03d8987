/-! appendInput -/
section Bits
theorem b255 : ∀ i : Nat, i < 32 → (255#32).getLsbD i = decide (i < 8) := by decide
theorem b_low (v : BitVec 32) : ((((v.signExtend 8).signExtend 32).signExtend 8).signExtend 32) &&& 255#32 = v &&& 255#32 := by
  apply BitVec.eq_of_getLsbD_eq
  intro i hi
  rw [BitVec.getLsbD_and, BitVec.getLsbD_and, b255 i hi]
  by_cases c : i < 8
  · rw [BitVec.getLsbD_signExtend, BitVec.getLsbD_signExtend, BitVec.getLsbD_signExtend, BitVec.getLsbD_signExtend]
    simp [c, hi]
  · simp [c]
theorem i_low {x : Int} : i_and (i_nb (i_b x)) 255 = i_and x 255 := by
  have e : i_nb (i_b x) = ((Int32.ofInt x).toInt8.toInt32.toInt8.toInt32).toInt := by
    show (vp_nar .byte (Int32.ofInt ((Int32.ofInt x).toInt8.toInt32).toInt)).toInt = _
    rw [Int32.ofInt_toInt]
    rfl
  rw [e]
  unfold i_and
  rw [Int32.ofInt_toInt]
  congr 1
  apply Int32.toBitVec_inj.mp
  rw [Int32.toBitVec_and, Int32.toBitVec_and, Int8.toBitVec_toInt32, Int32.toBitVec_toInt8, Int8.toBitVec_toInt32, Int32.toBitVec_toInt8]
  exact b_low _
theorem i_nb_in {x : Int} : inR (i_nb x) := by
  unfold i_nb
  have h1 := Int32.le_toInt (vp_nar .byte (Int32.ofInt x))
  have h2 := Int32.toInt_lt (vp_nar .byte (Int32.ofInt x))
  exact ⟨by omega, by omega⟩
theorem i_shr0 {x : Int} (h : inR x) : i_shr x 0 = x := by
  unfold i_shr
  have e : (Int32.ofInt 0 &&& 31) = 0 := by decide
  rw [e, Int32.shiftRight_zero]
  exact wr_id h
theorem and255 {x : Int} : 0 ≤ i_and x 255 ∧ i_and x 255 ≤ 255 := by
  have h : i_and x 255 = ((Int32.ofInt x &&& 255).toBitVec).toInt := rfl
  have e : (Int32.ofInt x &&& 255).toBitVec = (Int32.ofInt x).toBitVec &&& 255#32 := rfl
  have q : ((Int32.ofInt x).toBitVec &&& 255#32).toNat ≤ 255 := by
    rw [BitVec.toNat_and]
    exact Nat.and_le_right
  rw [h, e, BitVec.toInt_eq_toNat_cond, if_pos (by omega)]
  omega
end Bits
section Input
variable {S T : St} {W : Vw} {n : Int} {hs : Int → Vw} {w L : Int}
def byt (w i : Int) : Int := i_and (i_shr w (24 - 8 * i)) 255
theorem ln2 : ln 2 = 1600 := by decide
theorem in_c1 {x : Int} (hL : g S 1 1 = L) (h : 0 ≤ L ∧ L < 1600) : ∃ S', fn_Bytes_addByte 1 x S = some S' ∧ Off S S' 1 3 ∧ g S' 1 1 = L + 1 ∧ (∀ j : Int, 0 ≤ j → j < L → g S' 2 j.toNat = g S 2 j.toNat) ∧ g S' 2 L.toNat = i_and x 255 := by
  have a := and255 (x := x)
  refine ⟨u (u S 2 L.toNat (i_and x 255)) 1 1 (L + 1), ?_, (Off.wt (by omega) (by omega)).tu (by omega) (by omega), ?_, fun j j0 j1 => ?_, ?_⟩
  · unfold fn_Bytes_addByte
    rw [show tgt 1 0 = 2 from rfl, ln2, hL, if_neg (by omega), if_neg (by omega), if_pos (by omega), nm_x, nm_x, g_ne (by omega), hL]
  · rw [g_eq, wr_s (by omega) (by omega)]
  · rw [g_ne (by omega), g_ne (by omega)]
  · rw [g_ne (by omega), g_eq, wr_s (by omega) (by omega)]
theorem in_c4 (hw : inR w) (hL : g S 1 1 = L) (h : 0 ≤ L ∧ L + 4 ≤ 1600) : ∃ S', fn_Bytes_addWord 1 w S = some S' ∧ Off S S' 1 3 ∧ g S' 1 1 = L + 4 ∧ (∀ j : Int, 0 ≤ j → j < L → g S' 2 j.toNat = g S 2 j.toNat) ∧ ∀ i : Int, 0 ≤ i → i < 4 → g S' 2 (L + i).toNat = byt w i := by
  obtain ⟨S1, e1, o1, l1, k1, v1⟩ := in_c1 (x := i_shr w 24) hL ⟨h.1, by omega⟩
  obtain ⟨S2, e2, o2, l2, k2, v2⟩ := in_c1 (x := i_shr w 16) l1 ⟨by omega, by omega⟩
  obtain ⟨S3, e3, o3, l3, k3, v3⟩ := in_c1 (x := i_shr w 8) l2 ⟨by omega, by omega⟩
  obtain ⟨S4, e4, o4, l4, k4, v4⟩ := in_c1 (x := w) l3 ⟨by omega, by omega⟩
  refine ⟨S4, ?_, ((o1.trans o2).trans o3).trans o4, by omega, fun j j0 j1 => ?_, fun i i0 i1 => ?_⟩
  · unfold fn_Bytes_addWord
    rw [e1, bnO_s, e2, bnO_s, e3, bnO_s, e4, bnO_s]
  · rw [k4 j j0 (by omega), k3 j j0 (by omega), k2 j j0 (by omega), k1 j j0 j1]
  · have c : i = 0 ∨ i = 1 ∨ i = 2 ∨ i = 3 := by omega
    rcases c with rfl | rfl | rfl | rfl
    · rw [Int.add_zero, k4 L h.1 (by omega), k3 L h.1 (by omega), k2 L h.1 (by omega), v1]; rfl
    · rw [k4 (L + 1) (by omega) (by omega), k3 (L + 1) (by omega) (by omega), v2]; rfl
    · rw [show L + 2 = L + 1 + 1 by omega, k4 (L + 1 + 1) (by omega) (by omega), v3]; rfl
    · rw [show L + 3 = L + 1 + 1 + 1 by omega, v4]
      unfold byt
      rw [show (24 : Int) - 8 * 3 = 0 by decide, i_shr0 hw]
/-- what the reference leaves -/
def RI (T T' : St) : Prop := (∀ x f, x ≠ 514 → x ≠ 523 → g T' x f = g T x f) ∧ (∀ f, f ≠ 14 → g T' 514 f = g T 514 f) ∧ Off T T' 514 524
theorem RI.trans {T' T'' : St} (h : RI T T') (h' : RI T' T'') : RI T T'' := ⟨fun x f h1 h2 => (h'.1 x f h1 h2).trans (h.1 x f h1 h2), fun f h1 => (h'.2.1 f h1).trans (h.2.1 f h1), h.2.2.trans h'.2.2⟩
theorem in_m4 (hL : g T 514 14 = L) (h : 0 ≤ L ∧ L + 4 ≤ 1600) : ∃ T', fn_Mo_appendBytes 514 w T = some T' ∧ RI T T' ∧ g T' 514 14 = L + 4 ∧ (∀ j : Int, 0 ≤ j → j < L → g T' 523 j.toNat = g T 523 j.toNat) ∧ ∀ i : Int, 0 ≤ i → i < 4 → i_and (g T' 523 (L + i).toNat) 255 = byt w i := by
  have step : ∀ (T : St) (L : Int), g T 514 14 = L → 0 ≤ L ∧ L < 1600 → ∀ (s : Int) (go : Int × St → Option St), 0 ≤ s → s ≤ 24 → ∃ T', lb_Mo_appendBytes_3 514 w go s T = go (s - 8, T') ∧ RI T T' ∧ g T' 514 14 = L + 1 ∧ (∀ j : Int, 0 ≤ j → j < L → g T' 523 j.toNat = g T 523 j.toNat) ∧ i_and (g T' 523 L.toNat) 255 = i_and (i_shr w s) 255 := by
    intro T L hL h s go s0 s1
    refine ⟨u (u T 523 L.toNat (i_nb (i_b (i_shr w s)))) 514 14 (L + 1), ?_, ⟨fun x f h1 h2 => ?_, fun f h1 => ?_, (Off.wt (by omega) (by omega)).tu (by omega) (by omega)⟩, ?_, fun j j0 j1 => ?_, ?_⟩
    · unfold lb_Mo_appendBytes_3
      rw [if_neg (by omega : ¬ s < 0), hL, if_pos h, tg_514_13, nm_x, nm_x, nm_x, g_ne (by omega), hL, wr_s (z := s + (-8)) (by omega) (by omega)]
      rfl
    · rw [g_ne (by omega), g_ne (by omega)]
    · rw [g_ne (by omega), g_ne (by omega)]
    · rw [g_eq, wr_s (by omega) (by omega)]
    · rw [g_ne (by omega), g_ne (by omega)]
    · rw [g_ne (by omega), g_eq, wr_id i_nb_in, i_low]
  obtain ⟨T1, e1, r1, l1, k1, v1⟩ := step T L hL ⟨h.1, by omega⟩ 24 (lp (fun go p0 => lb_Mo_appendBytes_3 514 w go p0.1 p0.2) (FU - 1)) (by decide) (by decide)
  obtain ⟨T2, e2, r2, l2, k2, v2⟩ := step T1 (L + 1) l1 ⟨by omega, by omega⟩ 16 (lp (fun go p0 => lb_Mo_appendBytes_3 514 w go p0.1 p0.2) (FU - 2)) (by decide) (by decide)
  obtain ⟨T3, e3, r3, l3, k3, v3⟩ := step T2 (L + 1 + 1) l2 ⟨by omega, by omega⟩ 8 (lp (fun go p0 => lb_Mo_appendBytes_3 514 w go p0.1 p0.2) (FU - 3)) (by decide) (by decide)
  obtain ⟨T4, e4, r4, l4, k4, v4⟩ := step T3 (L + 1 + 1 + 1) l3 ⟨by omega, by omega⟩ 0 (lp (fun go p0 => lb_Mo_appendBytes_3 514 w go p0.1 p0.2) (FU - 4)) (by decide) (by decide)
  refine ⟨T4, ?_, ((r1.trans r2).trans r3).trans r4, by omega, fun j j0 j1 => ?_, fun i i0 i1 => ?_⟩
  · have q : lo_Mo_appendBytes_3 514 w FU (24, T) = some T4 := by
      show lp (fun go p0 => lb_Mo_appendBytes_3 514 w go p0.1 p0.2) FU (24, T) = _
      have f0 : FU = (FU - 1) + 1 := by have := FU_lt (m := 10) (by omega); omega
      have f1 : FU - 1 = (FU - 2) + 1 := by have := FU_lt (m := 10) (by omega); omega
      have f2 : FU - 2 = (FU - 3) + 1 := by have := FU_lt (m := 10) (by omega); omega
      have f3 : FU - 3 = (FU - 4) + 1 := by have := FU_lt (m := 10) (by omega); omega
      have f4 : FU - 4 = (FU - 5) + 1 := by have := FU_lt (m := 10) (by omega); omega
      rw [f0, lp_succ]
      show lb_Mo_appendBytes_3 514 w _ 24 T = _
      rw [e1, show (24 : Int) - 8 = 16 by decide, f1, lp_succ]
      show lb_Mo_appendBytes_3 514 w _ 16 T1 = _
      rw [e2, show (16 : Int) - 8 = 8 by decide, f2, lp_succ]
      show lb_Mo_appendBytes_3 514 w _ 8 T2 = _
      rw [e3, show (8 : Int) - 8 = 0 by decide, f3, lp_succ]
      show lb_Mo_appendBytes_3 514 w _ 0 T3 = _
      rw [e4, f4, lp_succ]
      show lb_Mo_appendBytes_3 514 w _ (0 - 8) T4 = _
      unfold lb_Mo_appendBytes_3
      rw [if_pos (by decide)]
    unfold fn_Mo_appendBytes
    rw [q, bnO_s]
  · rw [k4 j j0 (by omega), k3 j j0 (by omega), k2 j j0 (by omega), k1 j j0 j1]
  · have c : i = 0 ∨ i = 1 ∨ i = 2 ∨ i = 3 := by omega
    rcases c with rfl | rfl | rfl | rfl
    · rw [Int.add_zero, k4 L h.1 (by omega), k3 L h.1 (by omega), k2 L h.1 (by omega), v1]; rfl
    · rw [k4 (L + 1) (by omega) (by omega), k3 (L + 1) (by omega) (by omega), v2]; rfl
    · rw [show L + 2 = L + 1 + 1 by omega, k4 (L + 1 + 1) (by omega) (by omega), v3]; rfl
    · rw [show L + 3 = L + 1 + 1 + 1 by omega, v4]; rfl
theorem ok_appendInput (hI : Inv S) {w1 w2 w3 w4 w5 : Int} (h1 : inR w1) (h2 : inR w2) (h3 : inR w3) (h4 : inR w4) (h5 : inR w5) : ∃ r S1 S2, fn_FP_appendInput 0 w1 w2 w3 w4 w5 S = some (r, S1) ∧ fn_Mo_appendInput 514 w1 w2 w3 w4 w5 S1 = some (r, S2) ∧ Inv S2 := by
  obtain ⟨W, n, hs, hG, hH, hP⟩ := hI
  obtain ⟨i1, i2, i3⟩ := hP.2.2.1
  obtain ⟨L, hL⟩ : ∃ L, L = g S 1 1 := ⟨_, rfl⟩
  rw [← hL] at i1 i2 i3
  by_cases c : L + 20 ≤ 1600
  · obtain ⟨A1, e1, o1, l1, k1, v1⟩ := in_c4 h1 hL.symm ⟨i1.1, by omega⟩
    obtain ⟨A2, e2, o2, l2, k2, v2⟩ := in_c4 h2 l1 ⟨by omega, by omega⟩
    obtain ⟨A3, e3, o3, l3, k3, v3⟩ := in_c4 h3 l2 ⟨by omega, by omega⟩
    obtain ⟨A4, e4, o4, l4, k4, v4⟩ := in_c4 h4 l3 ⟨by omega, by omega⟩
    obtain ⟨A5, e5, o5, l5, k5, v5⟩ := in_c4 h5 l4 ⟨by omega, by omega⟩
    have oA : Off S A5 1 3 := (((o1.trans o2).trans o3).trans o4).trans o5
    obtain ⟨B0, hB0⟩ : ∃ B0, B0 = u A5 514 4 0 := ⟨_, rfl⟩
    have b0 : g B0 514 14 = L := by rw [hB0, g_ne (by omega), oA.rd (by omega)]; exact i2
    obtain ⟨B1, f1, r1, m1, q1, z1⟩ := in_m4 (w := w1) b0 ⟨i1.1, by omega⟩
    obtain ⟨B2, f2, r2, m2, q2, z2⟩ := in_m4 (w := w2) m1 ⟨by omega, by omega⟩
    obtain ⟨B3, f3, r3, m3, q3, z3⟩ := in_m4 (w := w3) m2 ⟨by omega, by omega⟩
    obtain ⟨B4, f4, r4, m4, q4, z4⟩ := in_m4 (w := w4) m3 ⟨by omega, by omega⟩
    obtain ⟨B5, f5, r5, m5, q5, z5⟩ := in_m4 (w := w5) m4 ⟨by omega, by omega⟩
    have rB : RI B0 B5 := (((r1.trans r2).trans r3).trans r4).trans r5
    -- the rows agree
    have nxt : ∀ {A A' B B' : St} {M w : Int}, 0 ≤ M → (∀ j : Int, 0 ≤ j → j < M → g A 2 j.toNat = i_and (g B 523 j.toNat) 255) → (∀ j : Int, 0 ≤ j → j < M → g A' 2 j.toNat = g A 2 j.toNat) → (∀ i : Int, 0 ≤ i → i < 4 → g A' 2 (M + i).toNat = byt w i) → (∀ j : Int, 0 ≤ j → j < M → g B' 523 j.toNat = g B 523 j.toNat) → (∀ i : Int, 0 ≤ i → i < 4 → i_and (g B' 523 (M + i).toNat) 255 = byt w i) → ∀ j : Int, 0 ≤ j → j < M + 4 → g A' 2 j.toNat = i_and (g B' 523 j.toNat) 255 := by
      intro A A' B B' M w M0 hh ka va kb vb j j0 j1
      by_cases d : j < M
      · rw [ka j j0 d, kb j j0 d]; exact hh j j0 d
      · have ea := va (j - M) (by omega) (by omega)
        have eb := vb (j - M) (by omega) (by omega)
        rw [show M + (j - M) = j by omega] at ea eb
        rw [ea, eb]
    have t0 : ∀ j : Int, 0 ≤ j → j < L → g S 2 j.toNat = i_and (g B0 523 j.toNat) 255 := fun j j0 j1 => by
      rw [hB0, g_ne (by omega), oA.rd (by omega)]; exact i3 j j0 j1
    have t5 := nxt (by omega) (nxt (by omega) (nxt (by omega) (nxt (by omega) (nxt i1.1 t0 k1 v1 q1 z1) k2 v2 q2 z2) k3 v3 q3 z3) k4 v4 q4 z4) k5 v5 q5 z5
    refine ⟨L + 20, A5, B5, ?_, ?_, W, n, hs, hG, hH, ?_⟩
    · unfold fn_FP_appendInput
      rw [tg_0_1, ← hL, nm_x, wr_s (z := L + 20) (by omega) (by omega), if_pos c, e1, bnO_s, e2, bnO_s, e3, bnO_s, e4, bnO_s, e5, bnO_s, l5]
      congr 2
      omega
    · unfold fn_Mo_appendInput
      rw [nm_x, ← hB0, b0, nm_x, wr_s (z := L + 20) (by omega) (by omega), if_pos c, f1, bnO_s, f2, bnO_s, f3, bnO_s, f4, bnO_s, f5, bnO_s, m5]
      congr 2
      omega
    · have mA : MV A5 W := ⟨by rw [← hP.1.2.1]; exact vM_off oA (by omega), hP.1.2.2⟩
      have m0 : MV B0 W := by rw [hB0]; exact mA.thr
      have h0 : HMo B0 n hs := by rw [hB0]; exact (hP.2.1.2.off oA (by omega)).thr
      have mB : MV B5 W := by
        refine ⟨?_, m0.2⟩
        rw [← m0.1]
        exact vM_eqv (by rw [m0.1]; exact m0.2) (rB.2.1 1 (by omega)) (rB.2.1 2 (by omega)) (fun x _ => rB.1 515 _ (by omega) (by omega))
      have hB : HMo B5 n hs := h0.low (rB.2.1 1 (by omega)) (rB.2.1 2 (by omega)) (rB.2.1 3 (by omega)) (fun f _ => rB.1 515 _ (by omega) (by omega))
      have o0 : Off A5 B5 514 524 := by
        have : Off A5 B0 514 524 := by rw [hB0]; exact Off.wt (by omega) (by omega)
        exact this.trans rB.2.2
      have g5 : ∀ x f, x ≠ 1 → x ≠ 2 → x ≠ 514 → x ≠ 523 → g B5 x f = g S x f := fun x f c1 c2 c3 c4 => by
        rw [rB.1 x f c3 c4, hB0, g_ne (by omega), oA.rd (by omega)]
      have g6 : ∀ f, f ≠ 4 → f ≠ 14 → g B5 514 f = g S 514 f := fun f c1 c2 => by
        rw [rB.2.1 f c2, hB0, g_ne (by omega), oA.rd (by omega)]
      have g12 : ∀ x f, (x = 1 ∨ x = 2) → g B5 x f = g A5 x f := fun x f hx => o0.rd (by omega)
      refine ⟨⟨(hP.1.1.off oA (by omega)).off o0 (by omega), mB⟩, ⟨(hP.2.1.1.off oA (by omega)).off o0 (by omega), hB⟩, ?_, ?_, ?_⟩
      · refine ⟨by rw [g12 1 1 (.inl rfl), l5]; omega, by rw [g12 1 1 (.inl rfl), l5, m5], fun j j0 j1 => ?_⟩
        rw [g12 1 1 (.inl rfl), l5] at j1
        rw [g12 2 _ (.inr rfl)]
        exact t5 j j0 j1
      · have q := hP.2.2.2.1
        unfold ErrR at q ⊢
        rw [g5 61 _ (by omega) (by omega) (by omega) (by omega), g5 61 _ (by omega) (by omega) (by omega) (by omega), g6 16 (by omega) (by omega), g6 17 (by omega) (by omega)]
        exact q
      · have q := hP.2.2.2.2
        unfold DscR at q ⊢
        simp only [g5 3 _ (by omega) (by omega) (by omega) (by omega), g5 4 _ (by omega) (by omega) (by omega) (by omega), g5 522 _ (by omega) (by omega) (by omega) (by omega), g6 12 (by omega) (by omega)]
        exact q
  · refine ⟨-1, S, u S 514 4 0, ?_, ?_, W, n, hs, hG, hH, hP.thr⟩
    · unfold fn_FP_appendInput
      rw [tg_0_1, ← hL, nm_x, wr_s (z := L + 20) (by omega) (by omega), if_neg c]
    · unfold fn_Mo_appendInput
      rw [nm_x, g_ne (by omega), i2, nm_x, wr_s (z := L + 20) (by omega) (by omega), if_neg c]
end Input
