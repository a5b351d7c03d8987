/-! THE SAME STATE: the whole question -/
theorem dc_int (a : Int) : compare a a = .eq := by
  show compareOfLessAndEq a a = .eq
  unfold compareOfLessAndEq
  rw [if_neg (Int.lt_irrefl a), if_pos rfl]
theorem dc_ord {d : Jvm.FP.Core.Datum} (h : d ≠ .nan) : Jvm.FP.Core.order d d = some .eq := by
  cases d with
  | nan => exact absurd rfl h
  | inf s => exact congrArg some (dc_int _)
  | fin s c q => exact congrArg some (dc_int _)
theorem dc_num {n : Nat} (h : n % 9223372036854775808 ≤ 9218868437227405312) : Jvm.FP.Core.decode Jvm.FP.Core.b64 n ≠ .nan := by
  have hT : Jvm.FP.Core.b64.tails = 4503599627370496 := by decide
  have hE : Jvm.FP.Core.b64.exps = 2048 := by decide
  unfold Jvm.FP.Core.decode Jvm.FP.Core.fieldE Jvm.FP.Core.fieldT
  rw [hT, hE]
  split
  · rename_i c
    split
    · intro q
      nomatch q
    · rename_i d
      omega
  · split
    · intro q
      nomatch q
    · intro q
      nomatch q
theorem dc_self {x : UInt64} (h : x &&& 0x7fffffffffffffff ≤ 0x7ff0000000000000) : i_dc x x = 0 := by
  have h1 : x.toNat % 9223372036854775808 ≤ 9218868437227405312 := by
    rw [UInt64.le_iff_toNat_le, UInt64.toNat_and, show (0x7fffffffffffffff : UInt64).toNat = 2 ^ 63 - 1 by decide, show (0x7ff0000000000000 : UInt64).toNat = 9218868437227405312 by decide, Nat.and_two_pow_sub_one_eq_mod] at h
    exact h
  have e : FP.dcmp x x = some .eq := dc_ord (dc_num h1)
  unfold i_dc
  rw [e]
  rfl
theorem cnt_eq {W : Vw} {c n : Nat} (hn : n ≤ 100) : wr (sumR (fun a => if at_ W c a ≤ 0 then 0 else 1) 0 n) = plS' W c 18 n := by
  have e : sumR (fun a => if at_ W c a ≤ 0 then (0 : Int) else 1) 0 n = plS' W c 18 n := by
    unfold plS'
    refine sumR_congr (fun j _ _ => ?_)
    show (if at_ W c j ≤ 0 then (0 : Int) else 1) = plW W c 18 j
    unfold plW
    rw [if_pos (c := (18 : Nat) = 18) rfl]
  have b := plS'_bd (W := W) (c := c) (j := 18) (k := n) (h := 1) (fun i hi => by
    unfold plW
    rw [if_pos (c := (18 : Nat) = 18) rfl]
    split <;> omega)
  rw [e, wr_s (by omega) (by omega)]
theorem cntF_eq {W : Vw} (hV : Val W) {c : Nat} (hc : c = 14 ∨ c = 15) : cntF W c = cfN W c (frm W).toNat := by
  have b := hV.z
  have ef : frm W = 2 * sg W := rfl
  have q := sumR_bd (w := fun f => at_ W c f) (l := 0) (h := 1) (n := (frm W).toNat) (i := 0) (fun j h1 h2 => by
    have v := hV.2.2.2.2 j h1 (by omega)
    show 0 ≤ at_ W c j ∧ at_ W c j ≤ 1
    rcases hc with rfl | rfl <;> omega)
  unfold cntF cfN
  exact wr_s (by omega) (by omega)
theorem rev_eq {W : Vw} (hV : Val W) : revB W (-1) = plS' W 6 4 (nA W).toNat ∧ qpN W = plS' W 6 0 (nA W).toNat := by
  have b := hV.z
  have e4 : sumA W (fun a => if at_ W 6 a ≤ 0 then 0 else if (-1 : Int) = -1 then at_ W 4 a else if at_ W 1 a = -1 then at_ W 4 a else 0) = plS' W 6 4 (nA W).toNat := by
    unfold sumA plS'
    refine sumR_congr (fun j _ _ => ?_)
    show (if at_ W 6 j ≤ 0 then (0 : Int) else if (-1 : Int) = -1 then at_ W 4 j else if at_ W 1 j = -1 then at_ W 4 j else 0) = plW W 6 4 j
    unfold plW
    rw [if_pos (c := (-1 : Int) = -1) rfl, if_neg (c := (4 : Nat) = 18) (by decide)]
  have b4 := plS'_bd (W := W) (c := 6) (j := 4) (k := (nA W).toNat) (h := 999) (fun i hi => by
    have v := hV.2.1 i (by omega) (by omega)
    unfold plW
    rw [if_neg (c := (4 : Nat) = 18) (by decide)]
    split <;> omega)
  refine ⟨?_, ?_⟩
  · unfold revB
    rw [e4, wr_s (by omega) (by omega)]
  · unfold qpN sumA plS'
    refine sumR_congr (fun j _ _ => ?_)
    show (if at_ W 6 j ≤ 0 then (0 : Int) else at_ W 0 j) = plW W 6 0 j
    unfold plW
    rw [if_neg (c := (0 : Nat) = 18) (by decide)]
section SameAll
variable {S : St} {L K K0 : List PC} {P : PA} {W : Vw}
theorem l_noPage (hT : PT S 5 W) {p : Int} (hp : ¬ (1 ≤ p ∧ p ≤ pgs W)) : fn_Law_thrownByPage 0 p S = some 1 := by
  unfold fn_Law_thrownByPage fn_FP_page
  rw [F_needPage hT, if_neg hp, bnO_s]
  rfl
theorem l_quarter (hT : PT S 5 W) (hG : Good W) : fn_FP_quarterPrice 0 S = some (if qpN W = 0 then (3, 0) else (0, FP.ddiv (i_d (revB W (-1))) (i_d (qpN W)))) := by
  have qb := qpN_bd hG
  have rb := rev_bd hG
  have ef : wr (0 + sumR (fun a => if at_ W 6 a ≤ 0 then 0 else at_ W 0 a) 0 (nA W - 0).toNat) = qpN W := by
    rw [Int.zero_add, Int.sub_zero]
    exact wr_s (by unfold qpN sumA at qb; omega) (by unfold qpN sumA at qb; omega)
  have eC : lo_FP_quarterPrice_15 0 (tgt (tgt (tgt 0 3) 0) 0) S FU (0, 0) = some (qpN W) := by
    rw [tg_0_3, tg_5_0, tg_6_0, F_qPr0 hT (inRk rfl), ef]
  unfold fn_FP_quarterPrice
  rw [eC, bnO_s]
  by_cases c : qpN W = 0
  · rw [if_pos c, if_pos c]
  · rw [if_neg c, if_neg c, F_revenue hT, bnO_s, if_pos (div_nn (by omega) (by omega))]
def dueG (W : Vw) (w : Nat) : Int := if w = 0 then pgs W else if w = 1 then sg W else if w = 2 then 2 * sg W else if w = 3 then nA W else if w = 4 then nS W else if w = 5 then nB W else if w = 6 then tm W else if w = 12 then -1 else 0
theorem rowD_0 {g : Nat → Int} {w7 : Nat} (h : g w7 = 0) : rowD g w7 0 = g := by
  funext w
  unfold rowD
  by_cases c : w = w7
  · rw [if_pos c, c, h]
  · rw [if_neg c]
theorem l_same {a2 : Int} (h : HP L P W) (hG : Good W) (hT : PT S 5 W) (hn : g S 63 2 = a2) (hL : L.length < 500000000) : Ok (gn_Law_same (pT P) a2 S L) 509 3191 (fun v => ∃ L', v = (true, (S, L')) ∧ Sf F0_ L L' ∧ L'.length ≤ L.length + 51) := by
  have hV := hG.1
  have b := hV.z
  obtain ⟨n1, r0⟩ := RowI.new (m := 13) (K := L) (by omega)
  have t0 : Sf F0_ L (L ++ [(100, List.replicate 13 (.int 0))]) := n1.sf0
  have h0 := h.sf0 t0
  have fr : nCell + L.length ≤ nCell + L.length := Nat.le_refl _
  obtain ⟨K1, e1, r1, u1, w1⟩ := r0.put (w := 0) (by omega) (pgs W)
  have t1 := t0.w w1 (.inr fr)
  have h1 := h.sf0 t1
  obtain ⟨K2, e2, r2, u2, w2⟩ := r1.put (w := 1) (by omega) (sg W)
  have t2 := t1.w w2 (.inr fr)
  have h2 := h.sf0 t2
  obtain ⟨K3, e3, r3, u3, w3⟩ := r2.put (w := 2) (by omega) (2 * sg W)
  have t3 := t2.w w3 (.inr fr)
  have h3 := h.sf0 t3
  obtain ⟨K4, e4, r4, u4, w4⟩ := r3.put (w := 3) (by omega) (nA W)
  have t4 := t3.w w4 (.inr fr)
  have h4 := h.sf0 t4
  obtain ⟨K5, e5, r5, u5, w5⟩ := r4.put (w := 4) (by omega) (nS W)
  have t5 := t4.w w5 (.inr fr)
  have h5 := h.sf0 t5
  obtain ⟨K6, e6, r6, u6, w6⟩ := r5.put (w := 5) (by omega) (nB W)
  have t6 := t5.w w6 (.inr fr)
  have h6 := h.sf0 t6
  obtain ⟨K7, e7, r7, u7, w7⟩ := r6.put (w := 6) (by omega) (tm W)
  have t7 := t6.w w7 (.inr fr)
  obtain ⟨K8, e8, r8, u8, w8⟩ := r7.put (w := 7) (by omega) 0
  have t8 := t7.w w8 (.inr fr)
  obtain ⟨K9, e9, r9, u9, w9⟩ := r8.put (w := 8) (by omega) 0
  have t9 := t8.w w9 (.inr fr)
  obtain ⟨K10, e10, r10, u10, w10⟩ := r9.put (w := 9) (by omega) 0
  have t10 := t9.w w10 (.inr fr)
  obtain ⟨K11, e11, r11, u11, w11⟩ := r10.put (w := 10) (by omega) 0
  have t11 := t10.w w11 (.inr fr)
  obtain ⟨K12, e12, r12, u12, w12⟩ := r11.put (w := 11) (by omega) 0
  have t12 := t11.w w12 (.inr fr)
  obtain ⟨K13, e13, r13, u13, w13⟩ := r12.put (w := 12) (by omega) (-1)
  have t13 := t12.w w13 (.inr fr)
  have l13 : K13.length = L.length + 1 := by rw [w13.1, w12.1, w11.1, w10.1, w9.1, w8.1, w7.1, w6.1, w5.1, w4.1, w3.1, w2.1, w1.1, n1.2.1]
  have rG : RowI K13 (nCell + L.length) 13 (dueG W) := r13.eq (fun w hw => by
    rcases (show w = 0 ∨ w = 1 ∨ w = 2 ∨ w = 3 ∨ w = 4 ∨ w = 5 ∨ w = 6 ∨ w = 7 ∨ w = 8 ∨ w = 9 ∨ w = 10 ∨ w = 11 ∨ w = 12 by omega) with rfl | rfl | rfl | rfl | rfl | rfl | rfl | rfl | rfl | rfl | rfl | rfl | rfl <;> rfl)
  have g7 : rowD (dueG W) 7 0 = dueG W := rowD_0 rfl
  have g8 : ∀ x, rowD (rowD (dueG W) 7 x) 8 0 = rowD (dueG W) 7 x := fun x => rowD_0 rfl
  have g9 : ∀ x y, rowD (rowD (rowD (dueG W) 7 x) 8 y) 9 0 = rowD (rowD (dueG W) 7 x) 8 y := fun x y => rowD_0 rfl
  have g10 : ∀ x y z, rowD (rowD (rowD (rowD (dueG W) 7 x) 8 y) 9 z) 10 0 = rowD (rowD (rowD (dueG W) 7 x) 8 y) 9 z := fun x y z => rowD_0 rfl
  have g11 : ∀ x y z, rowD (rowD (rowD (rowD (dueG W) 7 x) 8 y) 9 z) 11 0 = rowD (rowD (rowD (dueG W) 7 x) 8 y) 9 z := fun x y z => rowD_0 rfl
  have oA := l_sameA (S := S) (a2 := a2) (g := dueG W) h hG hT t13 fr (by rw [g7]; exact rG) (by omega)
  have i2 : wr (2 * sg W) = 2 * sg W := wr_s (by omega) (by omega)
  unfold gn_Law_same
  rw [if_pos (by decide), if_pos (by omega), nw_x]
  refine Ok.ad (c := 1) (s := 13) (by omega) (by omega) ?_
  show Ok (if isK (L ++ [(100, List.replicate 13 (Value.int 0))]) (pT P) 12 = true then (bnO (gn_LP_pages (pT P) S (L ++ [(100, List.replicate 13 (Value.int 0))])) fun p6 => bnO (ast (L ++ [(100, List.replicate 13 (Value.int 0))]) 100 (nCell + L.length) 0 (V p6)) _) else none) _ _ _
  rw [if_pos h0.k, l_pages h0 hV, bnO_s, e1, bnO_s, h1.gg hV, bnO_s, e2, bnO_s, h2.gg hV, bnO_s, nm_x, i2, e3, bnO_s, h3.fA, bnO_s, rfB_r, if_pos h3.kA, h3.cA, bnO_s, e4, bnO_s, h4.fS, bnO_s, rfB_r, if_pos h4.kS, h4.cS, bnO_s, e5, bnO_s, h5.fB, bnO_s, rfB_r, if_pos h5.kB, h5.cB, bnO_s, e6, bnO_s, h6.ti hV, bnO_s, e7, bnO_s, e8, bnO_s, e9, bnO_s, e10, bnO_s, e11, bnO_s, e12, bnO_s, e13, bnO_s]
  refine Ok.bindT (Q := fun v => ∃ K, v = (digA W (nA W).toNat, plS' W 6 4 (nA W).toNat, plS' W 6 0 (nA W).toNat, (S, K)) ∧ RowI K (nCell + L.length) 13 (rowD (dueG W) 7 (plS' W 6 18 (nA W).toNat)) ∧ Sf F0_ L K ∧ K.length = K13.length + (nA W).toNat) (oA.mono (Nat.le_refl _) (Nat.le_refl _) (fun v ⟨K, e, q⟩ => ⟨_, e, K, rfl, q⟩)) (by omega) (by omega) ?_
  rintro v ⟨KA, rfl, a1, a2', a3⟩
  have oS := l_sameS (S := S) (a2 := a2) (a5 := plS' W 6 4 (nA W).toNat) (a6 := plS' W 6 0 (nA W).toNat) (d := digA W (nA W).toNat) (g := rowD (dueG W) 7 (plS' W 6 18 (nA W).toNat)) h hG hT a2' fr (by rw [g8]; exact a1) (by omega)
  show Ok (bnT (lo2_Law_same_354 (pT P) a2 (nCell + L.length) (plS' W 6 4 (nA W).toNat) (plS' W 6 0 (nA W).toNat) FU (digA W (nA W).toNat, 0, (S, KA))) _ _) _ _ _
  refine Ok.bindT (Q := fun v => ∃ K, v = (digG W 11 (nS W).toNat (digA W (nA W).toNat), (S, K)) ∧ RowI K (nCell + L.length) 13 (rowD (rowD (dueG W) 7 (plS' W 6 18 (nA W).toNat)) 8 (plS' W 11 18 (nS W).toNat)) ∧ Sf F0_ L K ∧ K.length = KA.length + (nS W).toNat) (oS.mono (Nat.le_refl _) (Nat.le_refl _) (fun v ⟨K, e, q⟩ => ⟨_, e, K, rfl, q⟩)) (by omega) (by omega) ?_
  rintro v ⟨KS, rfl, s1, s2, s3⟩
  have oB := l_sameB (S := S) (a2 := a2) (a5 := plS' W 6 4 (nA W).toNat) (a6 := plS' W 6 0 (nA W).toNat) (d := digG W 11 (nS W).toNat (digA W (nA W).toNat)) (g := rowD (rowD (dueG W) 7 (plS' W 6 18 (nA W).toNat)) 8 (plS' W 11 18 (nS W).toNat)) h hG hT s2 fr (by rw [g9]; exact s1)
  show Ok (bnT (lo2_Law_same_538 (pT P) a2 (nCell + L.length) (plS' W 6 4 (nA W).toNat) (plS' W 6 0 (nA W).toNat) FU (digG W 11 (nS W).toNat (digA W (nA W).toNat), 0, (S, KS))) _ _) _ _ _
  refine Ok.bindT (Q := fun v => ∃ K, v = (digG W 13 (nB W).toNat (digG W 11 (nS W).toNat (digA W (nA W).toNat)), (S, K)) ∧ RowI K (nCell + L.length) 13 (rowD (rowD (rowD (dueG W) 7 (plS' W 6 18 (nA W).toNat)) 8 (plS' W 11 18 (nS W).toNat)) 9 (plS' W 13 18 (nB W).toNat)) ∧ Sf F0_ L K ∧ K.length = KS.length) (oB.mono (Nat.le_refl _) (Nat.le_refl _) (fun v ⟨K, e, q⟩ => ⟨_, e, K, rfl, q⟩)) (by omega) (by omega) ?_
  rintro v ⟨KB, rfl, b1, b2, b3⟩
  have oF := l_sameF (S := S) (a2 := a2) (a5 := plS' W 6 4 (nA W).toNat) (a6 := plS' W 6 0 (nA W).toNat) (d := digG W 13 (nB W).toNat (digG W 11 (nS W).toNat (digA W (nA W).toNat))) (g := rowD (rowD (rowD (dueG W) 7 (plS' W 6 18 (nA W).toNat)) 8 (plS' W 11 18 (nS W).toNat)) 9 (plS' W 13 18 (nB W).toNat)) h hV b2 fr (by rw [g10, g11]; exact b1)
  show Ok (bnO (lo2_Law_same_652 (pT P) a2 (nCell + L.length) (plS' W 6 4 (nA W).toNat) (plS' W 6 0 (nA W).toNat) FU (digG W 13 (nB W).toNat (digG W 11 (nS W).toNat (digA W (nA W).toNat)), 0, (S, KB))) _) _ _ _
  refine Ok.bind oF (Nat.zero_le _) (Nat.zero_le _) ?_
  rintro v cc ss ⟨KF, rfl, f1, f2, f3⟩
  have hF := h.sf0 f2
  have qc : ∀ w : Nat, w < 13 → rowD (rowD (rowD (rowD (rowD (dueG W) 7 (plS' W 6 18 (nA W).toNat)) 8 (plS' W 11 18 (nS W).toNat)) 9 (plS' W 13 18 (nB W).toNat)) 10 (cfN W 15 (frm W).toNat)) 11 (cfN W 14 (frm W).toNat) w = q_count W w := fun w hw => by
    have z7 : cntA W = plS' W 6 18 (nA W).toNat := cnt_eq (by omega)
    have z8 : cntS W = plS' W 11 18 (nS W).toNat := cnt_eq (by omega)
    have z9 : cntB W = plS' W 13 18 (nB W).toNat := cnt_eq (by omega)
    have z10 := cntF_eq hV (c := 15) (.inr rfl)
    have z11 := cntF_eq hV (c := 14) (.inl rfl)
    rw [← z7, ← z8, ← z9, ← z10, ← z11]
    rcases (show w = 0 ∨ w = 1 ∨ w = 2 ∨ w = 3 ∨ w = 4 ∨ w = 5 ∨ w = 6 ∨ w = 7 ∨ w = 8 ∨ w = 9 ∨ w = 10 ∨ w = 11 ∨ w = 12 by omega) with rfl | rfl | rfl | rfl | rfl | rfl | rfl | rfl | rfl | rfl | rfl | rfl | rfl <;> rfl
  have qin : ∀ w : Nat, w < 13 → inR (q_count W w) := fun w hw => by
    have ef : frm W = 2 * sg W := rfl
    rcases (show w = 0 ∨ w = 1 ∨ w = 2 ∨ w = 3 ∨ w = 4 ∨ w = 5 ∨ w = 6 ∨ w = 7 ∨ w = 8 ∨ w = 9 ∨ w = 10 ∨ w = 11 ∨ w = 12 by omega) with rfl | rfl | rfl | rfl | rfl | rfl | rfl | rfl | rfl | rfl | rfl | rfl | rfl
    · show inR (pgs W); unfold inR; omega
    · show inR (sg W); unfold inR; omega
    · show inR (frm W); unfold inR; omega
    · show inR (nA W); unfold inR; omega
    · show inR (nS W); unfold inR; omega
    · show inR (nB W); unfold inR; omega
    · show inR (tm W); unfold inR; omega
    · show inR (cntA W); exact wr_in _
    · show inR (cntS W); exact wr_in _
    · show inR (cntB W); exact wr_in _
    · show inR (cntF W 15); exact wr_in _
    · show inR (cntF W 14); exact wr_in _
    · show inR (-1); unfold inR; omega
  have cmp := l_same739 (S := S) (c1 := pT P) (a2 := a2) (a4 := digG W 15 (frm W).toNat (digG W 13 (nB W).toNat (digG W 11 (nS W).toNat (digA W (nA W).toNat)))) (a5 := plS' W 6 4 (nA W).toNat) (a6 := plS' W 6 0 (nA W).toNat) (q := q_count W) f1 (fun w hw => ⟨qc w hw, by rw [qc w hw]; exact qin w hw⟩) (fun w hw => cl_count hT hG (by unfold inR; omega)) 13 FU 0 rfl (FU_big (by omega))
  have rv := rev_eq hV
  have th0 := l_noPage hT (p := 0) (by omega)
  have th1 := l_noPage hT (p := pgs W + 1) (by omega)
  have qp := l_quarter hT hG
  have qb := qpN_bd hG
  have rb := rev_bd hG
  show Ok (bnT (lo2_Law_same_739 (pT P) a2 (nCell + L.length) (digG W 15 (frm W).toNat (digG W 13 (nB W).toNat (digG W 11 (nS W).toNat (digA W (nA W).toNat)))) (plS' W 6 4 (nA W).toNat) (plS' W 6 0 (nA W).toNat) FU (0, (S, KF))) _ _) _ _ _
  unfold bnT
  rw [show lo2_Law_same_739 (pT P) a2 (nCell + L.length) (digG W 15 (frm W).toNat (digG W 13 (nB W).toNat (digG W 11 (nS W).toNat (digA W (nA W).toNat)))) (plS' W 6 4 (nA W).toNat) (plS' W 6 0 (nA W).toNat) FU (0, (S, KF)) = _ from cmp, bnO_s]
  show Ok (adC 0 0 (bnO (fn_FP_digest 0 S) _)) _ _ _
  have hd : digW W = digG W 15 (frm W).toNat (digG W 13 (nB W).toNat (digG W 11 (nS W).toNat (digA W (nA W).toNat))) := rfl
  rw [adC00, cl_digest hT hG, bnO_s, if_pos hd, F_revenue hT, bnO_s, if_pos rv.1, cl_lost hT hG, bnO_s, hF.lo, bnO_s, if_pos rfl, cl_undoCount hT hG hn, bnO_s, if_pos rfl, th0, bnO_s]
  refine Ok.ad (c := 1) (s := 6) (by omega) (by omega) ?_
  rw [if_pos rfl, if_pos hF.k, l_pages hF hV, bnO_s, nm_x, wr_s (by omega) (by omega), th1, bnO_s]
  refine Ok.ad (c := 1) (s := 6) (by omega) (by omega) ?_
  rw [if_pos rfl]
  have len : KF.length ≤ L.length + 51 := by omega
  by_cases c : plS' W 6 0 (nA W).toNat = 0
  · have tp : fn_Law_thrownByPrice 0 S = some 3 := by
      unfold fn_Law_thrownByPrice
      rw [qp, rv.2, if_pos c, bnO_s]
      rfl
    rw [if_pos c, tp, bnO_s]
    refine Ok.ad (c := 1) (s := 6) (by omega) (by omega) ?_
    rw [if_pos rfl]
    exact Ok.ret ⟨KF, rfl, f2, len⟩
  · have dn := div_nn (a := revB W (-1)) (b := qpN W) (by omega) (by rw [rv.2] at qb ⊢; omega)
    rw [rv.1, rv.2] at dn
    rw [if_neg c, qp, rv.1, rv.2, if_neg c, bnO_s, if_pos rfl]
    refine Ok.ad (c := 1) (s := 6) (by omega) (by omega) ?_
    rw [if_pos dn, if_pos (dc_self dn)]
    exact Ok.ret ⟨KF, rfl, f2, len⟩
end SameAll
