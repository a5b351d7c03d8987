/-! A COPY OF A PLAN -/
section Copy2
variable {S : St} {L L' : List PC} {P : PA} {W : Vw}
theorem l_copy (h : HP L P W) (hV : Val W) (hL : L.length < 400000000) : Ok (gn_LP_copy (pT P) S L) 79 634 (fun v => ∃ L' P', v = (Value.ref (pT P'), (S, L')) ∧ HP L' P' W ∧ Sf F0_ L L' ∧ (∀ b, fpP P' b → nCell + L.length ≤ b) ∧ L'.length ≤ L.length + 79) := by
  have b := hV.z
  have lenA : ((xA P).length : Int) = nA W := h.2.1.1
  have lenS : ((xS P).length : Int) = nS W := h.2.1.2.1
  have lenB : ((xB P).length : Int) = nB W := h.2.1.2.2
  have gA := gs_le (xA P).length (by omega)
  have gS := (gs_le (xS P).length (by omega)).2.2 (by omega)
  have gB := (gs_le (xB P).length (by omega)).2.2 (by omega)
  have n0 := N1.of (L := L) (c := (12, dfl 12)) (by omega)
  have hxb : XB = 1000000000 := rfl
  have hnc : nCell = 514 := rfl
  obtain ⟨t, ht⟩ : ∃ t, t = nCell + L.length := ⟨_, rfl⟩
  rw [← ht] at n0
  obtain ⟨A, q, e0, hq, lA, sA0, tA, ⟨a1, a2, a3⟩, -, -, -⟩ := l_init (S := S) (L := L ++ [(12, dfl 12)]) n0.at rfl (by rw [n0.2.1]; omega)
  have l0 := n0.2.1
  have below : ∀ x c, hp L x = some c → x < t := fun x c hx => by rw [ht]; exact hp_lt hx
  have sA : Sf F0_ L A := (n0.sf0).tr0 sA0 (fun b hb => by rw [show b = t from hb]; omega)
  have hA := h.sf0 sA
  obtain ⟨A1, e1, w1⟩ := pf_s tA (f := 0) (Nat.le_of_ble_eq_true rfl) (V (sg W))
  have s1 : Sf F0_ L A1 := sA.w w1 (.inr (by omega))
  have hA1 := h.sf0 s1
  obtain ⟨A2, e2, w2⟩ := pf_s w1.at (f := 1) (Nat.le_of_ble_eq_true rfl) (V (pe W))
  have s2 : Sf F0_ L A2 := s1.w w2 (.inr (by omega))
  have hA2 := h.sf0 s2
  obtain ⟨A3, e3, w3⟩ := pf_s w2.at (f := 2) (Nat.le_of_ble_eq_true rfl) (V (tm W))
  have s3 : Sf F0_ L A3 := s2.w w3 (.inr (by omega))
  have hA3 := h.sf0 s3
  obtain ⟨A4, e4, w4⟩ := pf_s w3.at (f := 3) (Nat.le_of_ble_eq_true rfl) (V (lo_ W))
  have s4 : Sf F0_ L A4 := s3.w w4 (.inr (by omega))
  have hA4 := h.sf0 s4
  have l4 : A4.length = L.length + 7 := by rw [w4.1, w3.1, w2.1, w1.1, lA, l0]
  have c1 : LsH A4 q (XB + 300 + 300) 0 0 [] := (((a1.w12 tA w1).w12 w1.at w2).w12 w2.at w3).w12 w3.at w4
  have c2 : LsH A4 (q + 1) (XB + 300 + 300) 0 0 [] := (((a2.w12 tA w1).w12 w1.at w2).w12 w2.at w3).w12 w3.at w4
  have c3 : LsH A4 (q + 2) (XB + 300 + 300) 0 0 [] := (((a3.w12 tA w1).w12 w1.at w2).w12 w2.at w3).w12 w3.at w4
  -- the ads
  obtain ⟨t1, K1, i1, n1⟩ := k_iter (S := S) hA4.lA (by omega)
  have lK1 := n1.2.1
  have s5 : Sf F0_ L K1 := s4.n n1
  have hK1 := h.sf0 s5
  have qne : ∀ B : LA, LsA L B → q ≠ B.1 ∧ q + 1 ≠ B.1 ∧ q + 2 ≠ B.1 := fun B hB => by
    have := below _ _ hB.2.1
    omega
  have o1 := cp_loop (S := S) (c1 := t) (c2 := t1) (fd := 4) (l2 := q) (f := adV W) (K0 := K1) (by omega) hK1.lA ⟨_, n1.at⟩ (fun i x hx => ⟨hK1.1.2.2.1 i x hx, Itm_ad hV (by have := (List.getElem?_eq_some_iff.mp hx).1; have z : i < (xA P).length := this; omega)⟩) ⟨_, (n1.sf0).at0 w4.at, rfl⟩ (c1.sf n1.sf0 id (fun _ => id)) (qne _ h.lA).1 (by show (xA P).length ≤ 48; omega)
  have o1' := o1.mono (C' := (xA P).length + gcn (xA P).length) (T' := 7 * (xA P).length + gsn (xA P).length) (Nat.le_refl _) (Nat.le_refl _) (fun _ z => z)
  have hcopy : gn_LP_copy (pT P) S L = adC 1 10 (adC 6 33 (adC 1 4 (bnO (lo2_LP_copy_48 (pT P) t t1 FU (S, K1)) fun p32 => adC p32.2.1 p32.2.2 (bnO (gfV p32.1.2 (pT P) 12 5) fun v33 => rfB v33 fun r34 => if isK p32.1.2 r34 13 = true then (bnO (gn_AL_iterator r34 p32.1.1 p32.1.2) fun p35 => adC p35.2.1 p35.2.2 (rfB p35.1.1 fun r37 => bnO (lo2_LP_copy_90 (pT P) t r37 FU (p35.1.2.1, p35.1.2.2)) fun p51 => adC p51.2.1 p51.2.2 (bnO (gfV p51.1.2 (pT P) 12 6) fun v52 => rfB v52 fun r53 => if isK p51.1.2 r53 13 = true then (bnO (gn_AL_iterator r53 p51.1.1 p51.1.2) fun p54 => adC p54.2.1 p54.2.2 (rfB p54.1.1 fun r56 => bnO (lo2_LP_copy_132 (pT P) t r56 FU (p54.1.2.1, p54.1.2.2)) fun p70 => adC p70.2.1 p70.2.2 (bnO (gfV p70.1.2 (pT P) 12 7) fun v71 => rfB v71 fun r72 => bnO (cln p70.1.2 2 r72) fun vs73 => if p70.1.2.length < 900000000 then adC 1 vs73.length (nw p70.1.2 (102, vs73) fun r76 L77 => if isA L77 r76 2 = true then (bnO (pf L77 t 12 7 (.ref r76)) fun L79 => bnO (gfV L79 (pT P) 12 8) fun v80 => rfB v80 fun r81 => bnO (cln L79 2 r81) fun vs82 => if L79.length < 900000000 then adC 1 vs82.length (nw L79 (102, vs82) fun r85 L86 => if isA L86 r85 2 = true then (bnO (pf L86 t 12 8 (.ref r85)) fun L88 => bnO (gfV L88 (pT P) 12 9) fun v89 => rfB v89 fun r90 => bnO (cln L88 0 r90) fun vs91 => if L88.length < 900000000 then adC 1 vs91.length (nw L88 (100, vs91) fun r94 L95 => if isA L95 r94 0 = true then (bnO (pf L95 t 12 9 (.ref r94)) fun L97 => some (((.ref t), (p70.1.1, L97)), 0, 0)) else none) else none) else none) else none) else none) else none))) else none))) else none)))) := by
    unfold gn_LP_copy
    rw [if_pos (by omega), nw_x, ← ht, e0, bnO_s]
    show adC 1 10 (adC 6 33 (bnO (gfI A (pT P) 12 0) _)) = _
    rw [hA.gg hV, bnO_s, e1, bnO_s, hA1.ss hV, bnO_s, e2, bnO_s, hA2.ti hV, bnO_s, e3, bnO_s, hA3.lo, bnO_s, e4, bnO_s, hA4.fA, bnO_s, rfB_r, if_pos hA4.kA, i1, bnO_s]
    rfl
  rw [hcopy]
  refine Ok.ad (c := 1) (s := 10) (by omega) (by omega) (Ok.ad (c := 6) (s := 33) (by omega) (by omega) (Ok.ad (c := 1) (s := 4) (by omega) (by omega) ?_))
  rw [cp_48]
  refine Ok.bind o1' (by omega) (by omega) ?_
  rintro v cc ss ⟨KA, rA, mA, yA, rfl, pA1, pA2, pA3, pA4, pA5, pA6, pA7, pA8⟩
  have pA2 : yA.length = (xA P).length := pA2
  have pA8 : KA.length = K1.length + (xA P).length + gcn (xA P).length := pA8
  have fr1 : ∀ b, (b = q ∨ b = t1) → nCell + L.length ≤ b := fun b hb => by
    have := n1.1
    omega
  have s6 : Sf F0_ L KA := s5.tr0 pA7 fr1
  have hKA := h.sf0 s6
  show Ok (bnO (gfV KA (pT P) 12 5) fun v33 => rfB v33 fun r34 => if isK KA r34 13 = true then (bnO (gn_AL_iterator r34 S KA) _) else none) _ _ _
  obtain ⟨t2, K2, i2, n2⟩ := k_iter (S := S) hKA.lS (by omega)
  have lK2 := n2.2.1
  have s7 : Sf F0_ L K2 := s6.n n2
  have hK2 := h.sf0 s7
  have hn1 := n1.1
  have hn2 := n2.1
  have tKA := pA7.at ((n1.sf0).at0 w4.at) (fun z => by omega)
  have c2A : LsH K2 (q + 1) (XB + 300 + 300) 0 0 [] := ((c2.sf n1.sf0 id (fun _ => id)).sf pA7 (fun z => by omega) (fun z => by omega)).sf n2.sf0 id (fun _ => id)
  have o2 := cp_loop (S := S) (c1 := t) (c2 := t2) (fd := 5) (l2 := q + 1) (f := stV W) (K0 := K2) (by omega) hK2.lS ⟨_, n2.at⟩ (fun i x hx => ⟨hK2.1.2.2.2.1 i x hx, Itm_st hV (by have := (List.getElem?_eq_some_iff.mp hx).1; have z : i < (xS P).length := this; omega)⟩) ⟨_, (n2.sf0).at0 tKA, rfl⟩ c2A (qne _ h.lS).2.1 (by show (xS P).length ≤ 48; omega)
  have o2' := o2.mono (C' := (xS P).length + gcn (xS P).length) (T' := 7 * (xS P).length + gsn (xS P).length) (Nat.le_refl _) (Nat.le_refl _) (fun _ z => z)
  rw [hKA.fS, bnO_s, rfB_r, if_pos hKA.kS, i2, bnO_s]
  refine Ok.ad (c := 1) (s := 4) (by omega) (by omega) ?_
  show Ok (bnO (lo2_LP_copy_90 (pT P) t t2 FU (S, K2)) _) _ _ _
  rw [cp_90]
  refine Ok.bind o2' (by omega) (by omega) ?_
  rintro v cc ss ⟨KS, rS, mS, yS, rfl, pS1, pS2, pS3, pS4, pS5, pS6, pS7, pS8⟩
  have pS2 : yS.length = (xS P).length := pS2
  have pS8 : KS.length = K2.length + (xS P).length + gcn (xS P).length := pS8
  have fr2 : ∀ b, (b = q + 1 ∨ b = t2) → nCell + L.length ≤ b := fun b hb => by omega
  have s8 : Sf F0_ L KS := s7.tr0 pS7 fr2
  have hKS := h.sf0 s8
  show Ok (bnO (gfV KS (pT P) 12 6) fun v52 => rfB v52 fun r53 => if isK KS r53 13 = true then (bnO (gn_AL_iterator r53 S KS) _) else none) _ _ _
  obtain ⟨t3, K3, i3, n3⟩ := k_iter (S := S) hKS.lB (by omega)
  have lK3 := n3.2.1
  have hn3 := n3.1
  have s9 : Sf F0_ L K3 := s8.n n3
  have hK3 := h.sf0 s9
  have tKS := pS7.at ((n2.sf0).at0 tKA) (fun z => by omega)
  have c3A : LsH K2 (q + 2) (XB + 300 + 300) 0 0 [] := ((c3.sf n1.sf0 id (fun _ => id)).sf pA7 (fun z => by omega) (fun z => by omega)).sf n2.sf0 id (fun _ => id)
  have c3B : LsH K3 (q + 2) (XB + 300 + 300) 0 0 [] := (c3A.sf pS7 (fun z => by omega) (fun z => by omega)).sf n3.sf0 id (fun _ => id)
  have o3 := cp_loop (S := S) (c1 := t) (c2 := t3) (fd := 6) (l2 := q + 2) (f := sbV W) (K0 := K3) (by omega) hK3.lB ⟨_, n3.at⟩ (fun i x hx => ⟨hK3.1.2.2.2.2.1 i x hx, Itm_sb hV (by have := (List.getElem?_eq_some_iff.mp hx).1; have z : i < (xB P).length := this; omega)⟩) ⟨_, (n3.sf0).at0 tKS, rfl⟩ c3B (qne _ h.lB).2.2 (by show (xB P).length ≤ 48; omega)
  have o3' := o3.mono (C' := (xB P).length + gcn (xB P).length) (T' := 7 * (xB P).length + gsn (xB P).length) (Nat.le_refl _) (Nat.le_refl _) (fun _ z => z)
  rw [hKS.fB, bnO_s, rfB_r, if_pos hKS.kB, i3, bnO_s]
  have zA : (pA P).2.2.2.2.length = (xA P).length := rfl
  have zS : (pS P).2.2.2.2.length = (xS P).length := rfl
  have zB : (pB P).2.2.2.2.length = (xB P).length := rfl
  refine Ok.ad (c := 1) (s := 4) (by omega) (by omega) ?_
  show Ok (bnO (lo2_LP_copy_132 (pT P) t t3 FU (S, K3)) _) _ _ _
  rw [cp_132]
  refine Ok.bind o3' (by omega) (by omega) ?_
  rintro v cc ss ⟨KB, rB, mB, yB, rfl, pB1, pB2, pB3, pB4, pB5, pB6, pB7, pB8⟩
  have pB2 : yB.length = (xB P).length := pB2
  have pB8 : KB.length = K3.length + (xB P).length + gcn (xB P).length := pB8
  have fr3 : ∀ b, (b = q + 2 ∨ b = t3) → nCell + L.length ≤ b := fun b hb => by omega
  have s10 : Sf F0_ L KB := s9.tr0 pB7 fr3
  have hKB := h.sf0 s10
  have tKB := pB7.at ((n3.sf0).at0 tKS) (fun z => by omega)
  obtain ⟨vC, hC1, ⟨hC2, hC3⟩, hC4⟩ := hKB.1.2.2.2.2.2.1
  have m1 := N1.of (L := KB) (c := (102, vC)) (by omega)
  have lm1 := m1.2.1
  obtain ⟨M1, g1, x1⟩ := pf_s ((m1.sf0).at0 tKB) (f := 7) (Nat.le_of_ble_eq_true rfl) (Value.ref (nCell + KB.length))
  have lx1 := x1.1
  have s11 : Sf F0_ L M1 := (s10.n m1).w x1 (.inr (by omega))
  have hM1 := h.sf0 s11
  obtain ⟨vP, hP1, ⟨hP2, hP3⟩, hP4⟩ := hM1.1.2.2.2.2.2.2.1
  have m2 := N1.of (L := M1) (c := (102, vP)) (by omega)
  have lm2 := m2.2.1
  obtain ⟨M2, g2, x2⟩ := pf_s ((m2.sf0).at0 x1.at) (f := 8) (Nat.le_of_ble_eq_true rfl) (Value.ref (nCell + M1.length))
  have lx2 := x2.1
  have s12 : Sf F0_ L M2 := (s11.n m2).w x2 (.inr (by omega))
  have hM2 := h.sf0 s12
  obtain ⟨vK, hK1', ⟨hK2', hK3'⟩, hK4'⟩ := hM2.1.2.2.2.2.2.2.2
  have m3 := N1.of (L := M2) (c := (100, vK)) (by omega)
  have lm3 := m3.2.1
  obtain ⟨M3, g3, x3⟩ := pf_s ((m3.sf0).at0 x2.at) (f := 9) (Nat.le_of_ble_eq_true rfl) (Value.ref (nCell + M2.length))
  have lx3 := x3.1
  have s13 : Sf F0_ L M3 := (s12.n m3).w x3 (.inr (by omega))
  have hfin : (bnO (gfV KB (pT P) 12 7) fun v71 => rfB v71 fun r72 => bnO (cln KB 2 r72) fun vs73 => if KB.length < 900000000 then adC 1 vs73.length (nw KB (102, vs73) fun r76 L77 => if isA L77 r76 2 = true then (bnO (pf L77 t 12 7 (.ref r76)) fun L79 => bnO (gfV L79 (pT P) 12 8) fun v80 => rfB v80 fun r81 => bnO (cln L79 2 r81) fun vs82 => if L79.length < 900000000 then adC 1 vs82.length (nw L79 (102, vs82) fun r85 L86 => if isA L86 r85 2 = true then (bnO (pf L86 t 12 8 (.ref r85)) fun L88 => bnO (gfV L88 (pT P) 12 9) fun v89 => rfB v89 fun r90 => bnO (cln L88 0 r90) fun vs91 => if L88.length < 900000000 then adC 1 vs91.length (nw L88 (100, vs91) fun r94 L95 => if isA L95 r94 0 = true then (bnO (pf L95 t 12 9 (.ref r94)) fun L97 => some (((Value.ref t), (S, L97)), 0, 0)) else none) else none) else none) else none) else none) else none) = some ((Value.ref t, (S, M3)), 3, 24) := by
    have u1 : KB.length < 900000000 := by omega
    have u2 : M1.length < 900000000 := by omega
    have u3 : M2.length < 900000000 := by omega
    rw [hKB.fC, bnO_s, rfB_r, cln_s (t := 2) hC1 rfl hC3, bnO_s, if_pos u1, nw_x, if_pos (isA_s (t := 2) m1.at), g1, bnO_s, hM1.fP, bnO_s, rfB_r, cln_s (t := 2) hP1 rfl hP3, bnO_s, if_pos u2, nw_x, if_pos (isA_s (t := 2) m2.at), g2, bnO_s, hM2.fK, bnO_s, rfB_r, cln_s (t := 0) hK1' rfl hK3', bnO_s, if_pos u3, nw_x, if_pos (isA_s (t := 0) m3.at), g3, bnO_s, hC2, hP2, hK2']
    rfl
  show Ok (bnO (gfV KB (pT P) 12 7) _) _ _ _
  refine Eq.mpr (congrArg (fun o => Ok o _ _ _) (show _ = _ from hfin)) ?_
  -- where everything stands at the end
  have y3 : Sf (tF t) M2 M3 := ((Sf.refl).n m3).w x3 (.inl (show tF t t from rfl))
  have y2 : Sf (tF t) M1 M3 := (((Sf.refl).n m2).w x2 (.inl (show tF t t from rfl))).trans y3
  have y1 : Sf (tF t) KB M3 := (((Sf.refl).n m1).w x1 (.inl (show tF t t from rfl))).trans y2
  have ySf : Sf (fun b => b = t ∨ b = q + 2 ∨ b = t3) KS M3 := ((Sf.refl.n n3).trans (pB7.mono (fun b hb => .inr hb))).trans (y1.mono (fun b hb => .inl hb))
  have yA' : Sf (fun b => b = t ∨ (b = q + 1 ∨ b = t2) ∨ b = q + 2 ∨ b = t3) KA M3 := ((Sf.refl.n n2).trans (pS7.mono (fun b hb => .inr (.inl hb)))).trans (ySf.mono (fun b hb => hb.elim .inl (fun z => .inr (.inr z))))
  have rAx : rA < XB → nCell + K1.length ≤ rA ∧ rA < nCell + KA.length := fun z => by
    refine ⟨pA6 z, ?_⟩
    rcases pA1.2.2 with ⟨e, _⟩ | ⟨vs, e, _⟩
    · omega
    · exact hp_lt e
  have rSx : rS < XB → nCell + K2.length ≤ rS ∧ rS < nCell + KS.length := fun z => by
    refine ⟨pS6 z, ?_⟩
    rcases pS1.2.2 with ⟨e, _⟩ | ⟨vs, e, _⟩
    · omega
    · exact hp_lt e
  have iA : ∀ y ∈ yA, nCell + K1.length ≤ y ∧ y < nCell + KA.length := fun y hy => by
    obtain ⟨i, hi⟩ := List.mem_iff_getElem?.mp hy
    exact ⟨pA4 y hy, hp_lt (pA3 i y hi)⟩
  have iS : ∀ y ∈ yS, nCell + K2.length ≤ y ∧ y < nCell + KS.length := fun y hy => by
    obtain ⟨i, hi⟩ := List.mem_iff_getElem?.mp hy
    exact ⟨pS4 y hy, hp_lt (pS3 i y hi)⟩
  have iB : ∀ y ∈ yB, nCell + K3.length ≤ y ∧ y < nCell + KB.length := fun y hy => by
    obtain ⟨i, hi⟩ := List.mem_iff_getElem?.mp hy
    exact ⟨pB4 y hy, hp_lt (pB3 i y hi)⟩
  have cC : hp M3 (nCell + KB.length) = some (102, vC) := y2.at ((x1.ne (show nCell + KB.length ≠ t by omega)).trans m1.at) (show ¬ nCell + KB.length = t by omega)
  have cP : hp M3 (nCell + M1.length) = some (102, vP) := y3.at ((x2.ne (show nCell + M1.length ≠ t by omega)).trans m2.at) (show ¬ nCell + M1.length = t by omega)
  have cK : hp M3 (nCell + M2.length) = some (100, vK) := (x3.ne (show nCell + M2.length ≠ t by omega)).trans m3.at
  refine Ok.mono (C := 3) (T := 24) ⟨_, 3, 24, rfl, Nat.le_refl _, Nat.le_refl _, M3, (t, ((q, rA, mA, rmN (xA P).length, yA), (q + 1, rS, mS, rmN (xS P).length, yS), (q + 2, rB, mB, rmN (xB P).length, yB)), nCell + KB.length, nCell + M1.length, nCell + M2.length), rfl, ⟨⟨?_, ⟨?_, ?_, ?_⟩, ?_, ?_, ?_, ?_, ?_, ?_⟩, ⟨?_, ?_, ?_⟩, h.2.2.1, ?_⟩, s13, ?_, by omega⟩ (by omega) (by omega) (fun _ z => z)
  · exact x3.at
  · exact pA1.sf yA' (fun z => by omega) (fun z1 z2 => by have := rAx z1; omega)
  · exact pS1.sf ySf (fun z => by omega) (fun z1 z2 => by have := rSx z1; omega)
  · exact pB1.sf y1 (fun z => by have z : q + 2 = t := z; omega) (fun z1 z2 => by have z2 : rB = t := z2; have := pB6 z1; omega)
  · intro i x hx
    have := iA x (List.mem_of_getElem? hx)
    exact yA'.at (pA3 i x hx) (fun z => by omega)
  · intro i x hx
    have := iS x (List.mem_of_getElem? hx)
    exact ySf.at (pS3 i x hx) (fun z => by omega)
  · intro i x hx
    have := iB x (List.mem_of_getElem? hx)
    exact y1.at (pB3 i x hx) (fun z => by have z : x = t := z; omega)
  · exact ⟨vC, cC, ⟨hC2, hC3⟩, hC4⟩
  · exact ⟨vP, cP, ⟨hP2, hP3⟩, hP4⟩
  · exact ⟨vK, cK, ⟨hK2', hK3'⟩, hK4'⟩
  · show (yA.length : Int) = nA W; omega
  · show (yS.length : Int) = nS W; omega
  · show (yB.length : Int) = nB W; omega
  · refine ⟨⟨by show q ≠ q + 1; omega, by show q ≠ q + 2; omega, by show q + 1 ≠ q + 2; omega⟩, fun z => ?_, by show nCell + KB.length ≠ nCell + M1.length; omega, ?_⟩
    · have z : rA < XB := z
      have z1 := rAx z
      refine ⟨?_, ?_⟩
      · show rA ≠ rS
        intro e
        have := rSx (by omega)
        omega
      · show rA ≠ rB
        intro e
        have := pB6 (by omega)
        omega
    · show (yA ++ yS ++ yB).Nodup
      rw [List.nodup_append, List.nodup_append]
      refine ⟨⟨pA5, pS5, fun a ha b hb => ?_⟩, pB5, fun a ha b hb => ?_⟩
      · have := iA a ha
        have := iS b hb
        omega
      · have q1 := iB b hb
        rw [List.mem_append] at ha
        rcases ha with ha | ha
        · have := iA a ha; omega
        · have := iS a ha; omega
  · intro b hb
    have hrl : ∀ r : Nat, (r < XB → nCell + L.length ≤ r) → nCell + L.length ≤ r := fun r z => by
      by_cases c : r < XB
      · exact z c
      · omega
    rcases hb with hb | (hb | hb) | (hb | hb) | (hb | hb) | (hb | hb | hb) | hb | hb | hb
    · rw [show b = t from hb]; omega
    · rw [show b = q from hb]; omega
    · rw [show b = rA from hb]; exact hrl rA (fun z => by have := rAx z; omega)
    · rw [show b = q + 1 from hb]; omega
    · rw [show b = rS from hb]; exact hrl rS (fun z => by have := rSx z; omega)
    · rw [show b = q + 2 from hb]; omega
    · rw [show b = rB from hb]; exact hrl rB (fun z => by have := pB6 z; omega)
    · rw [show b = nCell + KB.length from hb]; omega
    · rw [show b = nCell + M1.length from hb]; omega
    · rw [show b = nCell + M2.length from hb]; omega
    · have := iA b hb; omega
    · have := iS b hb; omega
    · have := iB b hb; omega
end Copy2
