/-! TEXTS OF A PLAN'S STATEMENTS, as the law writes them -/
section PlanTx
variable {S : St} {K : List PC} {β : Type} {C T N : Nat} {R : β → Prop} {t : Nat} {bs : List Int} {c5 : Value}
theorem tx_co {kk : (Value × LZ) × Nat × Nat → Option (β × Nat × Nat)} {f : Int} (ht : StH K t bs) (h8 : c5 = Value.ref t) (hf : 0 ≤ f ∧ f < 8) (hd : (dg f).length = 1) (hN : bs.length + 9 ≤ N) (hN2 : N ≤ 1500) (hK : K.length < 500000000)
    (hk : ∀ t' K' u v, StH K' t' (bs ++ txS (sCo f)) → nCell + K.length ≤ t' → Sf F0_ K K' → K'.length ≤ K.length + N → Ok (kk ((Value.ref t', (S, K')), u, v)) C T R) :
    Ok (if K.length < 900000000 then adC 1 4 (nw K (15, dfl 15) fun r47 L48 => bnO (gn_SB_init r47 S L48) fun p50 => adC p50.2.1 p50.2.2 (rfB c5 fun r51 => if isK p50.1.2 r47 15 = true then (bnO (gn_SB_append r47 r51 p50.1.1 p50.1.2) fun p52 => adC p52.2.1 p52.2.2 (rfB p52.1.1 fun r54 => if isK p52.1.2.2 r54 15 = true then (bnO (gn_SB_append r54 (XB + 16) p52.1.2.1 p52.1.2.2) fun p55 => adC p55.2.1 p55.2.2 (rfB p55.1.1 fun r57 => if isK p55.1.2.2 r57 15 = true then (bnO (gn_SB_append2 r57 f p55.1.2.1 p55.1.2.2) fun p58 => adC p58.2.1 p58.2.2 (rfB p58.1.1 fun r60 => if isK p58.1.2.2 r60 15 = true then (bnO (gn_SB_append r60 (XB + 17) p58.1.2.1 p58.1.2.2) fun p61 => adC p61.2.1 p61.2.2 (rfB p61.1.1 fun r63 => if isK p61.1.2.2 r63 15 = true then (bnO (gn_SB_toString r63 p61.1.2.1 p61.1.2.2) fun p64 => adC p64.2.1 p64.2.2 (kk p64)) else none)) else none)) else none)) else none)) else none)) else none) (2 + (psi N 16 + (2 + C))) (20 + (phi N 16 + (4 + N + T))) R := by
  subst h8
  obtain ⟨q13, q14, q15, q16, q17, q18, q19, q20, q21, q22, q23⟩ := litLen
  have nls := nl_
  have hpsi : psi N 16 + 4 ≤ N := by unfold psi; split <;> omega
  refine in_s (N := N) (M := K.length + 2 + psi N 16) (C := 2 + C) (T := 4 + N + T) hN2 (Nat.le_refl _) (by omega) (fun L0 u0 v0 h0 => ?_)
  dsimp only
  rw [rfB_r, if_pos h0.k]
  refine ap_s h0 ht (by show 0 + _ ≤ _; omega) (fun L1 c1 s1 u1 v1 h1 => ?_)
  dsimp only
  rw [List.nil_append] at h1
  rw [rfB_r, if_pos h1.k]
  refine ap_s h1 (st_lit nls.2.1.2.2.1) (by omega) (fun L2 c2 s2 u2 v2 h2 => ?_)
  dsimp only
  have e2 : (bs ++ litB 16).length = (bs).length + (litB 16).length := List.length_append
  rw [rfB_r, if_pos h2.k]
  refine an_s h2 (by omega) (by omega) (fun L3 c3 s3 u3 v3 h3 => ?_)
  dsimp only
  have e3 : (bs ++ litB 16 ++ dg f).length = (bs ++ litB 16).length + (dg f).length := List.length_append
  rw [rfB_r, if_pos h3.k]
  refine ap_s h3 (st_lit nls.2.1.2.2.2.1) (by omega) (fun L4 c4 s4 u4 v4 h4 => ?_)
  dsimp only
  have e4 : (bs ++ litB 16 ++ dg f ++ litB 17).length = (bs ++ litB 16 ++ dg f).length + (litB 17).length := List.length_append
  rw [rfB_r, if_pos h4.k]
  have ef : bs ++ litB 16 ++ dg f ++ litB 17 = bs ++ txS (sCo f) := by
    show bs ++ litB 16 ++ dg f ++ litB 17 = bs ++ (litB 16 ++ dg f ++ litB 17)
    simp only [List.append_assoc]
  refine (st_s (C := C) (T := T) h4 (by omega) (fun t' Lz u v y1 y2 y3 y4 => ?_)).mono (by omega) (by omega) (fun _ q => q)
  rw [ef] at y1
  exact hk t' Lz u v y1 y2 y3 (by omega)
theorem tx_pu {kk : (Value × LZ) × Nat × Nat → Option (β × Nat × Nat)} {k p : Int} (ht : StH K t bs) (h8 : c5 = Value.ref t) (hf : 0 ≤ k ∧ k < 99) (hp : 0 ≤ p ∧ p < 99) (hd : (dg k).length ≤ 2) (hd2 : (dg p).length ≤ 2) (hN : bs.length + 10 ≤ N) (hN2 : N ≤ 1500) (hK : K.length < 500000000)
    (hk : ∀ t' K' u v, StH K' t' (bs ++ txS (sPu k p)) → nCell + K.length ≤ t' → Sf F0_ K K' → K'.length ≤ K.length + N → Ok (kk ((Value.ref t', (S, K')), u, v)) C T R) :
    Ok (if K.length < 900000000 then adC 1 4 (nw K (15, dfl 15) fun r412 L413 => bnO (gn_SB_init r412 S L413) fun p415 => adC p415.2.1 p415.2.2 (rfB c5 fun r416 => if isK p415.1.2 r412 15 = true then (bnO (gn_SB_append r412 r416 p415.1.1 p415.1.2) fun p417 => adC p417.2.1 p417.2.2 (rfB p417.1.1 fun r419 => if isK p417.1.2.2 r419 15 = true then (bnO (gn_SB_append r419 (XB + 22) p417.1.2.1 p417.1.2.2) fun p420 => adC p420.2.1 p420.2.2 (rfB p420.1.1 fun r422 => if isK p420.1.2.2 r422 15 = true then (bnO (gn_SB_append2 r422 k p420.1.2.1 p420.1.2.2) fun p423 => adC p423.2.1 p423.2.2 (rfB p423.1.1 fun r425 => if isK p423.1.2.2 r425 15 = true then (bnO (gn_SB_append r425 (XB + 14) p423.1.2.1 p423.1.2.2) fun p426 => adC p426.2.1 p426.2.2 (rfB p426.1.1 fun r428 => if isK p426.1.2.2 r428 15 = true then (bnO (gn_SB_append2 r428 p p426.1.2.1 p426.1.2.2) fun p429 => adC p429.2.1 p429.2.2 (rfB p429.1.1 fun r431 => if isK p429.1.2.2 r431 15 = true then (bnO (gn_SB_append r431 (XB + 15) p429.1.2.1 p429.1.2.2) fun p432 => adC p432.2.1 p432.2.2 (rfB p432.1.1 fun r434 => if isK p432.1.2.2 r434 15 = true then (bnO (gn_SB_toString r434 p432.1.2.1 p432.1.2.2) fun p435 => adC p435.2.1 p435.2.2 (kk p435)) else none)) else none)) else none)) else none)) else none)) else none)) else none)) else none) (2 + (psi N 16 + (2 + C))) (20 + (phi N 16 + (4 + N + T))) R := by
  subst h8
  obtain ⟨q13, q14, q15, q16, q17, q18, q19, q20, q21, q22, q23⟩ := litLen
  have nls := nl_
  have hpsi : psi N 16 + 4 ≤ N := by unfold psi; split <;> omega
  refine in_s (N := N) (M := K.length + 2 + psi N 16) (C := 2 + C) (T := 4 + N + T) hN2 (Nat.le_refl _) (by omega) (fun L0 u0 v0 h0 => ?_)
  dsimp only
  rw [rfB_r, if_pos h0.k]
  refine ap_s h0 ht (by show 0 + _ ≤ _; omega) (fun L1 c1 s1 u1 v1 h1 => ?_)
  dsimp only
  rw [List.nil_append] at h1
  rw [rfB_r, if_pos h1.k]
  refine ap_s h1 (st_lit nls.2.2.2.2.1) (by omega) (fun L2 c2 s2 u2 v2 h2 => ?_)
  dsimp only
  have e2 : (bs ++ litB 22).length = (bs).length + (litB 22).length := List.length_append
  rw [rfB_r, if_pos h2.k]
  refine an_s h2 (by omega) (by omega) (fun L3 c3 s3 u3 v3 h3 => ?_)
  dsimp only
  have e3 : (bs ++ litB 22 ++ dg k).length = (bs ++ litB 22).length + (dg k).length := List.length_append
  rw [rfB_r, if_pos h3.k]
  refine ap_s h3 (st_lit nls.2.1.1) (by omega) (fun L4 c4 s4 u4 v4 h4 => ?_)
  dsimp only
  have e4 : (bs ++ litB 22 ++ dg k ++ litB 14).length = (bs ++ litB 22 ++ dg k).length + (litB 14).length := List.length_append
  rw [rfB_r, if_pos h4.k]
  refine an_s h4 (by omega) (by omega) (fun L5 c5 s5 u5 v5 h5 => ?_)
  dsimp only
  have e5 : (bs ++ litB 22 ++ dg k ++ litB 14 ++ dg p).length = (bs ++ litB 22 ++ dg k ++ litB 14).length + (dg p).length := List.length_append
  rw [rfB_r, if_pos h5.k]
  refine ap_s h5 (st_lit nls.2.1.2.1) (by omega) (fun L6 c6 s6 u6 v6 h6 => ?_)
  dsimp only
  have e6 : (bs ++ litB 22 ++ dg k ++ litB 14 ++ dg p ++ litB 15).length = (bs ++ litB 22 ++ dg k ++ litB 14 ++ dg p).length + (litB 15).length := List.length_append
  rw [rfB_r, if_pos h6.k]
  have ef : bs ++ litB 22 ++ dg k ++ litB 14 ++ dg p ++ litB 15 = bs ++ txS (sPu k p) := by
    show bs ++ litB 22 ++ dg k ++ litB 14 ++ dg p ++ litB 15 = bs ++ (litB 22 ++ dg k ++ litB 14 ++ dg p ++ litB 15)
    simp only [List.append_assoc]
  refine (st_s (C := C) (T := T) h6 (by omega) (fun t' Lz u v y1 y2 y3 y4 => ?_)).mono (by omega) (by omega) (fun _ q => q)
  rw [ef] at y1
  exact hk t' Lz u v y1 y2 y3 (by omega)
theorem tx_sb {kk : (Value × LZ) × Nat × Nat → Option (β × Nat × Nat)} {s : Int} (ht : StH K t bs) (h8 : c5 = Value.ref t) {x : Nat} {vs : List Value} (hx : hp K x = some (11, vs)) (hv : vs[0]? = some (V s)) (hin : inR s) (hf : 0 ≤ s ∧ s < 9) (hd : (dg s).length = 1) (hN : bs.length + 10 ≤ N) (hN2 : N ≤ 1500) (hK : K.length < 500000000)
    (hk : ∀ t' K' u v, StH K' t' (bs ++ txS (sSb s)) → nCell + K.length ≤ t' → Sf F0_ K K' → K'.length ≤ K.length + N → Ok (kk ((Value.ref t', (S, K')), u, v)) C T R) :
    Ok (if K.length < 900000000 then adC 1 4 (nw K (15, dfl 15) fun r312 L313 => bnO (gn_SB_init r312 S L313) fun p315 => adC p315.2.1 p315.2.2 (rfB c5 fun r316 => if isK p315.1.2 r312 15 = true then (bnO (gn_SB_append r312 r316 p315.1.1 p315.1.2) fun p317 => adC p317.2.1 p317.2.2 (rfB p317.1.1 fun r319 => if isK p317.1.2.2 r319 15 = true then (bnO (gn_SB_append r319 (XB + 20) p317.1.2.1 p317.1.2.2) fun p320 => adC p320.2.1 p320.2.2 (bnO (gfI p320.1.2.2 x 11 0) fun v322 => rfB p320.1.1 fun r323 => if isK p320.1.2.2 r323 15 = true then (bnO (gn_SB_append2 r323 v322 p320.1.2.1 p320.1.2.2) fun p324 => adC p324.2.1 p324.2.2 (rfB p324.1.1 fun r326 => if isK p324.1.2.2 r326 15 = true then (bnO (gn_SB_append r326 (XB + 15) p324.1.2.1 p324.1.2.2) fun p327 => adC p327.2.1 p327.2.2 (rfB p327.1.1 fun r329 => if isK p327.1.2.2 r329 15 = true then (bnO (gn_SB_toString r329 p327.1.2.1 p327.1.2.2) fun p330 => adC p330.2.1 p330.2.2 (kk p330)) else none)) else none)) else none)) else none)) else none)) else none) (2 + (psi N 16 + (2 + C))) (20 + (phi N 16 + (4 + N + T))) R := by
  subst h8
  obtain ⟨q13, q14, q15, q16, q17, q18, q19, q20, q21, q22, q23⟩ := litLen
  have nls := nl_
  have hpsi : psi N 16 + 4 ≤ N := by unfold psi; split <;> omega
  refine in_s (N := N) (M := K.length + 2 + psi N 16) (C := 2 + C) (T := 4 + N + T) hN2 (Nat.le_refl _) (by omega) (fun L0 u0 v0 h0 => ?_)
  dsimp only
  rw [rfB_r, if_pos h0.k]
  refine ap_s h0 ht (by show 0 + _ ≤ _; omega) (fun L1 c1 s1 u1 v1 h1 => ?_)
  dsimp only
  rw [List.nil_append] at h1
  rw [rfB_r, if_pos h1.k]
  refine ap_s h1 (st_lit nls.2.2.1) (by omega) (fun L2 c2 s2 u2 v2 h2 => ?_)
  dsimp only
  have e2 : (bs ++ litB 20).length = (bs).length + (litB 20).length := List.length_append
  rw [gfI_s (h2.sf.at0 hx) (f := 0) hv hin, bnO_s, rfB_r, if_pos h2.k]
  refine an_s h2 (by omega) (by omega) (fun L3 c3 s3 u3 v3 h3 => ?_)
  dsimp only
  have e3 : (bs ++ litB 20 ++ dg s).length = (bs ++ litB 20).length + (dg s).length := List.length_append
  rw [rfB_r, if_pos h3.k]
  refine ap_s h3 (st_lit nls.2.1.2.1) (by omega) (fun L4 c4 s4 u4 v4 h4 => ?_)
  dsimp only
  have e4 : (bs ++ litB 20 ++ dg s ++ litB 15).length = (bs ++ litB 20 ++ dg s).length + (litB 15).length := List.length_append
  rw [rfB_r, if_pos h4.k]
  have ef : bs ++ litB 20 ++ dg s ++ litB 15 = bs ++ txS (sSb s) := by
    show bs ++ litB 20 ++ dg s ++ litB 15 = bs ++ (litB 20 ++ dg s ++ litB 15)
    simp only [List.append_assoc]
  refine (st_s (C := C) (T := T) h4 (by omega) (fun t' Lz u v y1 y2 y3 y4 => ?_)).mono (by omega) (by omega) (fun _ q => q)
  rw [ef] at y1
  exact hk t' Lz u v y1 y2 y3 (by omega)
theorem tx_ad0 {kk : (Value × LZ) × Nat × Nat → Option (β × Nat × Nat)} {s y d p r : Int} {x : Nat} (ht : StH K t bs) (h8 : c5 = Value.ref t) (hx : hp K x = some (11, itV s y d p r 0 0)) (i1 : 0 ≤ s ∧ s < 9) (i2 : 0 ≤ y ∧ y < 9) (i3 : 0 ≤ d ∧ d < 9) (i4 : 0 ≤ p ∧ p < 999) (i5 : 0 ≤ r ∧ r < 99) (d1 : (dg s).length = 1) (d2 : (dg y).length = 1) (d3 : (dg d).length = 1) (d4 : (dg p).length ≤ 3) (d5 : (dg r).length ≤ 2) (d6 : (dg 0).length = 1) (hN : bs.length + 18 ≤ N) (hN2 : N ≤ 1500) (hK : K.length < 500000000)
    (hk : ∀ t' K' u v, StH K' t' (bs ++ txS (sAd s y 0 d p r)) → nCell + K.length ≤ t' → Sf F0_ K K' → K'.length ≤ K.length + N → Ok (kk ((Value.ref t', (S, K')), u, v)) C T R) :
    Ok (if K.length < 900000000 then adC 1 4 (nw K (15, dfl 15) fun r106 L107 => bnO (gn_SB_init r106 S L107) fun p109 => adC p109.2.1 p109.2.2 (rfB c5 fun r110 => if isK p109.1.2 r106 15 = true then (bnO (gn_SB_append r106 r110 p109.1.1 p109.1.2) fun p111 => adC p111.2.1 p111.2.2 (rfB p111.1.1 fun r113 => if isK p111.1.2.2 r113 15 = true then (bnO (gn_SB_append r113 (XB + 18) p111.1.2.1 p111.1.2.2) fun p114 => adC p114.2.1 p114.2.2 (bnO (gfI p114.1.2.2 x 11 0) fun v116 => rfB p114.1.1 fun r117 => if isK p114.1.2.2 r117 15 = true then (bnO (gn_SB_append2 r117 v116 p114.1.2.1 p114.1.2.2) fun p118 => adC p118.2.1 p118.2.2 (rfB p118.1.1 fun r120 => if isK p118.1.2.2 r120 15 = true then (bnO (gn_SB_append r120 (XB + 14) p118.1.2.1 p118.1.2.2) fun p121 => adC p121.2.1 p121.2.2 (bnO (gfI p121.1.2.2 x 11 1) fun v123 => rfB p121.1.1 fun r124 => if isK p121.1.2.2 r124 15 = true then (bnO (gn_SB_append2 r124 v123 p121.1.2.1 p121.1.2.2) fun p125 => adC p125.2.1 p125.2.2 (rfB p125.1.1 fun r127 => if isK p125.1.2.2 r127 15 = true then (bnO (gn_SB_append r127 (XB + 14) p125.1.2.1 p125.1.2.2) fun p128 => adC p128.2.1 p128.2.2 (bnO (gfI p128.1.2.2 x 11 6) fun v130 => if v130 = 0 then (rfB p128.1.1 fun r131 => if isK p128.1.2.2 r131 15 = true then (bnO (gn_SB_append2 r131 0 p128.1.2.1 p128.1.2.2) fun p132 => adC p132.2.1 p132.2.2 (rfB p132.1.1 fun r134 => if isK p132.1.2.2 r134 15 = true then (bnO (gn_SB_append r134 (XB + 14) p132.1.2.1 p132.1.2.2) fun p135 => adC p135.2.1 p135.2.2 (bnO (gfI p135.1.2.2 x 11 2) fun v137 => rfB p135.1.1 fun r138 => if isK p135.1.2.2 r138 15 = true then (bnO (gn_SB_append2 r138 v137 p135.1.2.1 p135.1.2.2) fun p139 => adC p139.2.1 p139.2.2 (rfB p139.1.1 fun r141 => if isK p139.1.2.2 r141 15 = true then (bnO (gn_SB_append r141 (XB + 14) p139.1.2.1 p139.1.2.2) fun p142 => adC p142.2.1 p142.2.2 (bnO (gfI p142.1.2.2 x 11 3) fun v144 => rfB p142.1.1 fun r145 => if isK p142.1.2.2 r145 15 = true then (bnO (gn_SB_append2 r145 v144 p142.1.2.1 p142.1.2.2) fun p146 => adC p146.2.1 p146.2.2 (rfB p146.1.1 fun r148 => if isK p146.1.2.2 r148 15 = true then (bnO (gn_SB_append r148 (XB + 14) p146.1.2.1 p146.1.2.2) fun p149 => adC p149.2.1 p149.2.2 (bnO (gfI p149.1.2.2 x 11 4) fun v151 => rfB p149.1.1 fun r152 => if isK p149.1.2.2 r152 15 = true then (bnO (gn_SB_append2 r152 v151 p149.1.2.1 p149.1.2.2) fun p153 => adC p153.2.1 p153.2.2 (rfB p153.1.1 fun r155 => if isK p153.1.2.2 r155 15 = true then (bnO (gn_SB_append r155 (XB + 15) p153.1.2.1 p153.1.2.2) fun p156 => adC p156.2.1 p156.2.2 (rfB p156.1.1 fun r158 => if isK p156.1.2.2 r158 15 = true then (bnO (gn_SB_toString r158 p156.1.2.1 p156.1.2.2) fun p159 => adC p159.2.1 p159.2.2 (kk p159)) else none)) else none)) else none)) else none)) else none)) else none)) else none)) else none)) else none) else (rfB p128.1.1 fun r162 => if isK p128.1.2.2 r162 15 = true then (bnO (gn_SB_append2 r162 1 p128.1.2.1 p128.1.2.2) fun p163 => adC p163.2.1 p163.2.2 (rfB p163.1.1 fun r165 => if isK p163.1.2.2 r165 15 = true then (bnO (gn_SB_append r165 (XB + 14) p163.1.2.1 p163.1.2.2) fun p166 => adC p166.2.1 p166.2.2 (bnO (gfI p166.1.2.2 x 11 2) fun v168 => rfB p166.1.1 fun r169 => if isK p166.1.2.2 r169 15 = true then (bnO (gn_SB_append2 r169 v168 p166.1.2.1 p166.1.2.2) fun p170 => adC p170.2.1 p170.2.2 (rfB p170.1.1 fun r172 => if isK p170.1.2.2 r172 15 = true then (bnO (gn_SB_append r172 (XB + 14) p170.1.2.1 p170.1.2.2) fun p173 => adC p173.2.1 p173.2.2 (bnO (gfI p173.1.2.2 x 11 3) fun v175 => rfB p173.1.1 fun r176 => if isK p173.1.2.2 r176 15 = true then (bnO (gn_SB_append2 r176 v175 p173.1.2.1 p173.1.2.2) fun p177 => adC p177.2.1 p177.2.2 (rfB p177.1.1 fun r179 => if isK p177.1.2.2 r179 15 = true then (bnO (gn_SB_append r179 (XB + 14) p177.1.2.1 p177.1.2.2) fun p180 => adC p180.2.1 p180.2.2 (bnO (gfI p180.1.2.2 x 11 4) fun v182 => rfB p180.1.1 fun r183 => if isK p180.1.2.2 r183 15 = true then (bnO (gn_SB_append2 r183 v182 p180.1.2.1 p180.1.2.2) fun p184 => adC p184.2.1 p184.2.2 (rfB p184.1.1 fun r186 => if isK p184.1.2.2 r186 15 = true then (bnO (gn_SB_append r186 (XB + 15) p184.1.2.1 p184.1.2.2) fun p187 => adC p187.2.1 p187.2.2 (rfB p187.1.1 fun r189 => if isK p187.1.2.2 r189 15 = true then (bnO (gn_SB_toString r189 p187.1.2.1 p187.1.2.2) fun p190 => adC p190.2.1 p190.2.2 (kk p190)) else none)) else none)) else none)) else none)) else none)) else none)) else none)) else none)) else none))) else none)) else none)) else none)) else none)) else none)) else none)) else none) (2 + (psi N 16 + (2 + C))) (20 + (phi N 16 + (4 + N + T))) R := by
  subst h8
  obtain ⟨q13, q14, q15, q16, q17, q18, q19, q20, q21, q22, q23⟩ := litLen
  have nls := nl_
  have hpsi : psi N 16 + 4 ≤ N := by unfold psi; split <;> omega
  refine in_s (N := N) (M := K.length + 2 + psi N 16) (C := 2 + C) (T := 4 + N + T) hN2 (Nat.le_refl _) (by omega) (fun L0 u0 v0 h0 => ?_)
  dsimp only
  rw [rfB_r, if_pos h0.k]
  refine ap_s h0 ht (by show 0 + _ ≤ _; omega) (fun L1 c1 s1 u1 v1 h1 => ?_)
  dsimp only
  rw [List.nil_append] at h1
  rw [rfB_r, if_pos h1.k]
  refine ap_s h1 (st_lit nls.2.1.2.2.2.2.1) (by omega) (fun L2 c2 s2 u2 v2 h2 => ?_)
  dsimp only
  have e2 : (bs ++ litB 18).length = (bs).length + (litB 18).length := List.length_append
  rw [gfI_s (h2.sf.at0 hx) (f := 0) rfl (by unfold inR; omega), bnO_s, rfB_r, if_pos h2.k]
  refine an_s h2 (by omega) (by omega) (fun L3 c3 s3 u3 v3 h3 => ?_)
  dsimp only
  have e3 : (bs ++ litB 18 ++ dg s).length = (bs ++ litB 18).length + (dg s).length := List.length_append
  rw [rfB_r, if_pos h3.k]
  refine ap_s h3 (st_lit nls.2.1.1) (by omega) (fun L4 c4 s4 u4 v4 h4 => ?_)
  dsimp only
  have e4 : (bs ++ litB 18 ++ dg s ++ litB 14).length = (bs ++ litB 18 ++ dg s).length + (litB 14).length := List.length_append
  rw [gfI_s (h4.sf.at0 hx) (f := 1) rfl (by unfold inR; omega), bnO_s, rfB_r, if_pos h4.k]
  refine an_s h4 (by omega) (by omega) (fun L5 c5 s5 u5 v5 h5 => ?_)
  dsimp only
  have e5 : (bs ++ litB 18 ++ dg s ++ litB 14 ++ dg y).length = (bs ++ litB 18 ++ dg s ++ litB 14).length + (dg y).length := List.length_append
  rw [rfB_r, if_pos h5.k]
  refine ap_s h5 (st_lit nls.2.1.1) (by omega) (fun L6 c6 s6 u6 v6 h6 => ?_)
  dsimp only
  have e6 : (bs ++ litB 18 ++ dg s ++ litB 14 ++ dg y ++ litB 14).length = (bs ++ litB 18 ++ dg s ++ litB 14 ++ dg y).length + (litB 14).length := List.length_append
  rw [gfI_s (h6.sf.at0 hx) (f := 6) rfl (by unfold inR; omega), bnO_s, if_pos rfl, rfB_r, if_pos h6.k]
  refine an_s h6 (by omega) (by omega) (fun L7 c7 s7 u7 v7 h7 => ?_)
  dsimp only
  have e7 : (bs ++ litB 18 ++ dg s ++ litB 14 ++ dg y ++ litB 14 ++ dg 0).length = (bs ++ litB 18 ++ dg s ++ litB 14 ++ dg y ++ litB 14).length + (dg 0).length := List.length_append
  rw [rfB_r, if_pos h7.k]
  refine ap_s h7 (st_lit nls.2.1.1) (by omega) (fun L8 c8 s8 u8 v8 h8 => ?_)
  dsimp only
  have e8 : (bs ++ litB 18 ++ dg s ++ litB 14 ++ dg y ++ litB 14 ++ dg 0 ++ litB 14).length = (bs ++ litB 18 ++ dg s ++ litB 14 ++ dg y ++ litB 14 ++ dg 0).length + (litB 14).length := List.length_append
  rw [gfI_s (h8.sf.at0 hx) (f := 2) rfl (by unfold inR; omega), bnO_s, rfB_r, if_pos h8.k]
  refine an_s h8 (by omega) (by omega) (fun L9 c9 s9 u9 v9 h9 => ?_)
  dsimp only
  have e9 : (bs ++ litB 18 ++ dg s ++ litB 14 ++ dg y ++ litB 14 ++ dg 0 ++ litB 14 ++ dg d).length = (bs ++ litB 18 ++ dg s ++ litB 14 ++ dg y ++ litB 14 ++ dg 0 ++ litB 14).length + (dg d).length := List.length_append
  rw [rfB_r, if_pos h9.k]
  refine ap_s h9 (st_lit nls.2.1.1) (by omega) (fun L10 c10 s10 u10 v10 h10 => ?_)
  dsimp only
  have e10 : (bs ++ litB 18 ++ dg s ++ litB 14 ++ dg y ++ litB 14 ++ dg 0 ++ litB 14 ++ dg d ++ litB 14).length = (bs ++ litB 18 ++ dg s ++ litB 14 ++ dg y ++ litB 14 ++ dg 0 ++ litB 14 ++ dg d).length + (litB 14).length := List.length_append
  rw [gfI_s (h10.sf.at0 hx) (f := 3) rfl (by unfold inR; omega), bnO_s, rfB_r, if_pos h10.k]
  refine an_s h10 (by omega) (by omega) (fun L11 c11 s11 u11 v11 h11 => ?_)
  dsimp only
  have e11 : (bs ++ litB 18 ++ dg s ++ litB 14 ++ dg y ++ litB 14 ++ dg 0 ++ litB 14 ++ dg d ++ litB 14 ++ dg p).length = (bs ++ litB 18 ++ dg s ++ litB 14 ++ dg y ++ litB 14 ++ dg 0 ++ litB 14 ++ dg d ++ litB 14).length + (dg p).length := List.length_append
  rw [rfB_r, if_pos h11.k]
  refine ap_s h11 (st_lit nls.2.1.1) (by omega) (fun L12 c12 s12 u12 v12 h12 => ?_)
  dsimp only
  have e12 : (bs ++ litB 18 ++ dg s ++ litB 14 ++ dg y ++ litB 14 ++ dg 0 ++ litB 14 ++ dg d ++ litB 14 ++ dg p ++ litB 14).length = (bs ++ litB 18 ++ dg s ++ litB 14 ++ dg y ++ litB 14 ++ dg 0 ++ litB 14 ++ dg d ++ litB 14 ++ dg p).length + (litB 14).length := List.length_append
  rw [gfI_s (h12.sf.at0 hx) (f := 4) rfl (by unfold inR; omega), bnO_s, rfB_r, if_pos h12.k]
  refine an_s h12 (by omega) (by omega) (fun L13 c13 s13 u13 v13 h13 => ?_)
  dsimp only
  have e13 : (bs ++ litB 18 ++ dg s ++ litB 14 ++ dg y ++ litB 14 ++ dg 0 ++ litB 14 ++ dg d ++ litB 14 ++ dg p ++ litB 14 ++ dg r).length = (bs ++ litB 18 ++ dg s ++ litB 14 ++ dg y ++ litB 14 ++ dg 0 ++ litB 14 ++ dg d ++ litB 14 ++ dg p ++ litB 14).length + (dg r).length := List.length_append
  rw [rfB_r, if_pos h13.k]
  refine ap_s h13 (st_lit nls.2.1.2.1) (by omega) (fun L14 c14 s14 u14 v14 h14 => ?_)
  dsimp only
  have e14 : (bs ++ litB 18 ++ dg s ++ litB 14 ++ dg y ++ litB 14 ++ dg 0 ++ litB 14 ++ dg d ++ litB 14 ++ dg p ++ litB 14 ++ dg r ++ litB 15).length = (bs ++ litB 18 ++ dg s ++ litB 14 ++ dg y ++ litB 14 ++ dg 0 ++ litB 14 ++ dg d ++ litB 14 ++ dg p ++ litB 14 ++ dg r).length + (litB 15).length := List.length_append
  rw [rfB_r, if_pos h14.k]
  have ef : bs ++ litB 18 ++ dg s ++ litB 14 ++ dg y ++ litB 14 ++ dg 0 ++ litB 14 ++ dg d ++ litB 14 ++ dg p ++ litB 14 ++ dg r ++ litB 15 = bs ++ txS (sAd s y 0 d p r) := by
    show bs ++ litB 18 ++ dg s ++ litB 14 ++ dg y ++ litB 14 ++ dg 0 ++ litB 14 ++ dg d ++ litB 14 ++ dg p ++ litB 14 ++ dg r ++ litB 15 = bs ++ (litB 18 ++ dg s ++ litB 14 ++ dg y ++ litB 14 ++ dg 0 ++ litB 14 ++ dg d ++ litB 14 ++ dg p ++ litB 14 ++ dg r ++ litB 15)
    simp only [List.append_assoc]
  refine (st_s (C := C) (T := T) h14 (by omega) (fun t' Lz u v y1 y2 y3 y4 => ?_)).mono (by omega) (by omega) (fun _ q => q)
  rw [ef] at y1
  exact hk t' Lz u v y1 y2 y3 (by omega)
theorem tx_st0 {kk : (Value × LZ) × Nat × Nat → Option (β × Nat × Nat)} {s y d p r : Int} {x : Nat} (ht : StH K t bs) (h8 : c5 = Value.ref t) (hx : hp K x = some (11, itV s y d p r 0 0)) (i1 : 0 ≤ s ∧ s < 9) (i3 : 0 ≤ d ∧ d < 9) (i5 : 0 ≤ r ∧ r < 99) (d1 : (dg s).length = 1) (d3 : (dg d).length = 1) (d5 : (dg r).length ≤ 2) (d6 : (dg 0).length = 1) (hN : bs.length + 15 ≤ N) (hN2 : N ≤ 1500) (hK : K.length < 500000000)
    (hk : ∀ t' K' u v, StH K' t' (bs ++ txS (sSt s 0 d r)) → nCell + K.length ≤ t' → Sf F0_ K K' → K'.length ≤ K.length + N → Ok (kk ((Value.ref t', (S, K')), u, v)) C T R) :
    Ok (if K.length < 900000000 then adC 1 4 (nw K (15, dfl 15) fun r227 L228 => bnO (gn_SB_init r227 S L228) fun p230 => adC p230.2.1 p230.2.2 (rfB c5 fun r231 => if isK p230.1.2 r227 15 = true then (bnO (gn_SB_append r227 r231 p230.1.1 p230.1.2) fun p232 => adC p232.2.1 p232.2.2 (rfB p232.1.1 fun r234 => if isK p232.1.2.2 r234 15 = true then (bnO (gn_SB_append r234 (XB + 19) p232.1.2.1 p232.1.2.2) fun p235 => adC p235.2.1 p235.2.2 (bnO (gfI p235.1.2.2 x 11 0) fun v237 => rfB p235.1.1 fun r238 => if isK p235.1.2.2 r238 15 = true then (bnO (gn_SB_append2 r238 v237 p235.1.2.1 p235.1.2.2) fun p239 => adC p239.2.1 p239.2.2 (rfB p239.1.1 fun r241 => if isK p239.1.2.2 r241 15 = true then (bnO (gn_SB_append r241 (XB + 14) p239.1.2.1 p239.1.2.2) fun p242 => adC p242.2.1 p242.2.2 (bnO (gfI p242.1.2.2 x 11 6) fun v244 => if v244 = 0 then (rfB p242.1.1 fun r245 => if isK p242.1.2.2 r245 15 = true then (bnO (gn_SB_append2 r245 0 p242.1.2.1 p242.1.2.2) fun p246 => adC p246.2.1 p246.2.2 (rfB p246.1.1 fun r248 => if isK p246.1.2.2 r248 15 = true then (bnO (gn_SB_append r248 (XB + 14) p246.1.2.1 p246.1.2.2) fun p249 => adC p249.2.1 p249.2.2 (bnO (gfI p249.1.2.2 x 11 2) fun v251 => rfB p249.1.1 fun r252 => if isK p249.1.2.2 r252 15 = true then (bnO (gn_SB_append2 r252 v251 p249.1.2.1 p249.1.2.2) fun p253 => adC p253.2.1 p253.2.2 (rfB p253.1.1 fun r255 => if isK p253.1.2.2 r255 15 = true then (bnO (gn_SB_append r255 (XB + 14) p253.1.2.1 p253.1.2.2) fun p256 => adC p256.2.1 p256.2.2 (bnO (gfI p256.1.2.2 x 11 4) fun v258 => rfB p256.1.1 fun r259 => if isK p256.1.2.2 r259 15 = true then (bnO (gn_SB_append2 r259 v258 p256.1.2.1 p256.1.2.2) fun p260 => adC p260.2.1 p260.2.2 (rfB p260.1.1 fun r262 => if isK p260.1.2.2 r262 15 = true then (bnO (gn_SB_append r262 (XB + 15) p260.1.2.1 p260.1.2.2) fun p263 => adC p263.2.1 p263.2.2 (rfB p263.1.1 fun r265 => if isK p263.1.2.2 r265 15 = true then (bnO (gn_SB_toString r265 p263.1.2.1 p263.1.2.2) fun p266 => adC p266.2.1 p266.2.2 (kk p266)) else none)) else none)) else none)) else none)) else none)) else none)) else none) else (rfB p242.1.1 fun r269 => if isK p242.1.2.2 r269 15 = true then (bnO (gn_SB_append2 r269 1 p242.1.2.1 p242.1.2.2) fun p270 => adC p270.2.1 p270.2.2 (rfB p270.1.1 fun r272 => if isK p270.1.2.2 r272 15 = true then (bnO (gn_SB_append r272 (XB + 14) p270.1.2.1 p270.1.2.2) fun p273 => adC p273.2.1 p273.2.2 (bnO (gfI p273.1.2.2 x 11 2) fun v275 => rfB p273.1.1 fun r276 => if isK p273.1.2.2 r276 15 = true then (bnO (gn_SB_append2 r276 v275 p273.1.2.1 p273.1.2.2) fun p277 => adC p277.2.1 p277.2.2 (rfB p277.1.1 fun r279 => if isK p277.1.2.2 r279 15 = true then (bnO (gn_SB_append r279 (XB + 14) p277.1.2.1 p277.1.2.2) fun p280 => adC p280.2.1 p280.2.2 (bnO (gfI p280.1.2.2 x 11 4) fun v282 => rfB p280.1.1 fun r283 => if isK p280.1.2.2 r283 15 = true then (bnO (gn_SB_append2 r283 v282 p280.1.2.1 p280.1.2.2) fun p284 => adC p284.2.1 p284.2.2 (rfB p284.1.1 fun r286 => if isK p284.1.2.2 r286 15 = true then (bnO (gn_SB_append r286 (XB + 15) p284.1.2.1 p284.1.2.2) fun p287 => adC p287.2.1 p287.2.2 (rfB p287.1.1 fun r289 => if isK p287.1.2.2 r289 15 = true then (bnO (gn_SB_toString r289 p287.1.2.1 p287.1.2.2) fun p290 => adC p290.2.1 p290.2.2 (kk p290)) else none)) else none)) else none)) else none)) else none)) else none)) else none))) else none)) else none)) else none)) else none)) else none) (2 + (psi N 16 + (2 + C))) (20 + (phi N 16 + (4 + N + T))) R := by
  subst h8
  obtain ⟨q13, q14, q15, q16, q17, q18, q19, q20, q21, q22, q23⟩ := litLen
  have nls := nl_
  have hpsi : psi N 16 + 4 ≤ N := by unfold psi; split <;> omega
  refine in_s (N := N) (M := K.length + 2 + psi N 16) (C := 2 + C) (T := 4 + N + T) hN2 (Nat.le_refl _) (by omega) (fun L0 u0 v0 h0 => ?_)
  dsimp only
  rw [rfB_r, if_pos h0.k]
  refine ap_s h0 ht (by show 0 + _ ≤ _; omega) (fun L1 c1 s1 u1 v1 h1 => ?_)
  dsimp only
  rw [List.nil_append] at h1
  rw [rfB_r, if_pos h1.k]
  refine ap_s h1 (st_lit nls.2.1.2.2.2.2.2) (by omega) (fun L2 c2 s2 u2 v2 h2 => ?_)
  dsimp only
  have e2 : (bs ++ litB 19).length = (bs).length + (litB 19).length := List.length_append
  rw [gfI_s (h2.sf.at0 hx) (f := 0) rfl (by unfold inR; omega), bnO_s, rfB_r, if_pos h2.k]
  refine an_s h2 (by omega) (by omega) (fun L3 c3 s3 u3 v3 h3 => ?_)
  dsimp only
  have e3 : (bs ++ litB 19 ++ dg s).length = (bs ++ litB 19).length + (dg s).length := List.length_append
  rw [rfB_r, if_pos h3.k]
  refine ap_s h3 (st_lit nls.2.1.1) (by omega) (fun L4 c4 s4 u4 v4 h4 => ?_)
  dsimp only
  have e4 : (bs ++ litB 19 ++ dg s ++ litB 14).length = (bs ++ litB 19 ++ dg s).length + (litB 14).length := List.length_append
  rw [gfI_s (h4.sf.at0 hx) (f := 6) rfl (by unfold inR; omega), bnO_s, if_pos rfl, rfB_r, if_pos h4.k]
  refine an_s h4 (by omega) (by omega) (fun L5 c5 s5 u5 v5 h5 => ?_)
  dsimp only
  have e5 : (bs ++ litB 19 ++ dg s ++ litB 14 ++ dg 0).length = (bs ++ litB 19 ++ dg s ++ litB 14).length + (dg 0).length := List.length_append
  rw [rfB_r, if_pos h5.k]
  refine ap_s h5 (st_lit nls.2.1.1) (by omega) (fun L6 c6 s6 u6 v6 h6 => ?_)
  dsimp only
  have e6 : (bs ++ litB 19 ++ dg s ++ litB 14 ++ dg 0 ++ litB 14).length = (bs ++ litB 19 ++ dg s ++ litB 14 ++ dg 0).length + (litB 14).length := List.length_append
  rw [gfI_s (h6.sf.at0 hx) (f := 2) rfl (by unfold inR; omega), bnO_s, rfB_r, if_pos h6.k]
  refine an_s h6 (by omega) (by omega) (fun L7 c7 s7 u7 v7 h7 => ?_)
  dsimp only
  have e7 : (bs ++ litB 19 ++ dg s ++ litB 14 ++ dg 0 ++ litB 14 ++ dg d).length = (bs ++ litB 19 ++ dg s ++ litB 14 ++ dg 0 ++ litB 14).length + (dg d).length := List.length_append
  rw [rfB_r, if_pos h7.k]
  refine ap_s h7 (st_lit nls.2.1.1) (by omega) (fun L8 c8 s8 u8 v8 h8 => ?_)
  dsimp only
  have e8 : (bs ++ litB 19 ++ dg s ++ litB 14 ++ dg 0 ++ litB 14 ++ dg d ++ litB 14).length = (bs ++ litB 19 ++ dg s ++ litB 14 ++ dg 0 ++ litB 14 ++ dg d).length + (litB 14).length := List.length_append
  rw [gfI_s (h8.sf.at0 hx) (f := 4) rfl (by unfold inR; omega), bnO_s, rfB_r, if_pos h8.k]
  refine an_s h8 (by omega) (by omega) (fun L9 c9 s9 u9 v9 h9 => ?_)
  dsimp only
  have e9 : (bs ++ litB 19 ++ dg s ++ litB 14 ++ dg 0 ++ litB 14 ++ dg d ++ litB 14 ++ dg r).length = (bs ++ litB 19 ++ dg s ++ litB 14 ++ dg 0 ++ litB 14 ++ dg d ++ litB 14).length + (dg r).length := List.length_append
  rw [rfB_r, if_pos h9.k]
  refine ap_s h9 (st_lit nls.2.1.2.1) (by omega) (fun L10 c10 s10 u10 v10 h10 => ?_)
  dsimp only
  have e10 : (bs ++ litB 19 ++ dg s ++ litB 14 ++ dg 0 ++ litB 14 ++ dg d ++ litB 14 ++ dg r ++ litB 15).length = (bs ++ litB 19 ++ dg s ++ litB 14 ++ dg 0 ++ litB 14 ++ dg d ++ litB 14 ++ dg r).length + (litB 15).length := List.length_append
  rw [rfB_r, if_pos h10.k]
  have ef : bs ++ litB 19 ++ dg s ++ litB 14 ++ dg 0 ++ litB 14 ++ dg d ++ litB 14 ++ dg r ++ litB 15 = bs ++ txS (sSt s 0 d r) := by
    show bs ++ litB 19 ++ dg s ++ litB 14 ++ dg 0 ++ litB 14 ++ dg d ++ litB 14 ++ dg r ++ litB 15 = bs ++ (litB 19 ++ dg s ++ litB 14 ++ dg 0 ++ litB 14 ++ dg d ++ litB 14 ++ dg r ++ litB 15)
    simp only [List.append_assoc]
  refine (st_s (C := C) (T := T) h10 (by omega) (fun t' Lz u v y1 y2 y3 y4 => ?_)).mono (by omega) (by omega) (fun _ q => q)
  rw [ef] at y1
  exact hk t' Lz u v y1 y2 y3 (by omega)
theorem tx_ad1 {kk : (Value × LZ) × Nat × Nat → Option (β × Nat × Nat)} {s y d p r : Int} {x : Nat} (ht : StH K t bs) (h8 : c5 = Value.ref t) (hx : hp K x = some (11, itV s y d p r 0 1)) (i1 : 0 ≤ s ∧ s < 9) (i2 : 0 ≤ y ∧ y < 9) (i3 : 0 ≤ d ∧ d < 9) (i4 : 0 ≤ p ∧ p < 999) (i5 : 0 ≤ r ∧ r < 99) (d1 : (dg s).length = 1) (d2 : (dg y).length = 1) (d3 : (dg d).length = 1) (d4 : (dg p).length ≤ 3) (d5 : (dg r).length ≤ 2) (d6 : (dg 1).length = 1) (hN : bs.length + 18 ≤ N) (hN2 : N ≤ 1500) (hK : K.length < 500000000)
    (hk : ∀ t' K' u v, StH K' t' (bs ++ txS (sAd s y 1 d p r)) → nCell + K.length ≤ t' → Sf F0_ K K' → K'.length ≤ K.length + N → Ok (kk ((Value.ref t', (S, K')), u, v)) C T R) :
    Ok (if K.length < 900000000 then adC 1 4 (nw K (15, dfl 15) fun r106 L107 => bnO (gn_SB_init r106 S L107) fun p109 => adC p109.2.1 p109.2.2 (rfB c5 fun r110 => if isK p109.1.2 r106 15 = true then (bnO (gn_SB_append r106 r110 p109.1.1 p109.1.2) fun p111 => adC p111.2.1 p111.2.2 (rfB p111.1.1 fun r113 => if isK p111.1.2.2 r113 15 = true then (bnO (gn_SB_append r113 (XB + 18) p111.1.2.1 p111.1.2.2) fun p114 => adC p114.2.1 p114.2.2 (bnO (gfI p114.1.2.2 x 11 0) fun v116 => rfB p114.1.1 fun r117 => if isK p114.1.2.2 r117 15 = true then (bnO (gn_SB_append2 r117 v116 p114.1.2.1 p114.1.2.2) fun p118 => adC p118.2.1 p118.2.2 (rfB p118.1.1 fun r120 => if isK p118.1.2.2 r120 15 = true then (bnO (gn_SB_append r120 (XB + 14) p118.1.2.1 p118.1.2.2) fun p121 => adC p121.2.1 p121.2.2 (bnO (gfI p121.1.2.2 x 11 1) fun v123 => rfB p121.1.1 fun r124 => if isK p121.1.2.2 r124 15 = true then (bnO (gn_SB_append2 r124 v123 p121.1.2.1 p121.1.2.2) fun p125 => adC p125.2.1 p125.2.2 (rfB p125.1.1 fun r127 => if isK p125.1.2.2 r127 15 = true then (bnO (gn_SB_append r127 (XB + 14) p125.1.2.1 p125.1.2.2) fun p128 => adC p128.2.1 p128.2.2 (bnO (gfI p128.1.2.2 x 11 6) fun v130 => if v130 = 0 then (rfB p128.1.1 fun r131 => if isK p128.1.2.2 r131 15 = true then (bnO (gn_SB_append2 r131 0 p128.1.2.1 p128.1.2.2) fun p132 => adC p132.2.1 p132.2.2 (rfB p132.1.1 fun r134 => if isK p132.1.2.2 r134 15 = true then (bnO (gn_SB_append r134 (XB + 14) p132.1.2.1 p132.1.2.2) fun p135 => adC p135.2.1 p135.2.2 (bnO (gfI p135.1.2.2 x 11 2) fun v137 => rfB p135.1.1 fun r138 => if isK p135.1.2.2 r138 15 = true then (bnO (gn_SB_append2 r138 v137 p135.1.2.1 p135.1.2.2) fun p139 => adC p139.2.1 p139.2.2 (rfB p139.1.1 fun r141 => if isK p139.1.2.2 r141 15 = true then (bnO (gn_SB_append r141 (XB + 14) p139.1.2.1 p139.1.2.2) fun p142 => adC p142.2.1 p142.2.2 (bnO (gfI p142.1.2.2 x 11 3) fun v144 => rfB p142.1.1 fun r145 => if isK p142.1.2.2 r145 15 = true then (bnO (gn_SB_append2 r145 v144 p142.1.2.1 p142.1.2.2) fun p146 => adC p146.2.1 p146.2.2 (rfB p146.1.1 fun r148 => if isK p146.1.2.2 r148 15 = true then (bnO (gn_SB_append r148 (XB + 14) p146.1.2.1 p146.1.2.2) fun p149 => adC p149.2.1 p149.2.2 (bnO (gfI p149.1.2.2 x 11 4) fun v151 => rfB p149.1.1 fun r152 => if isK p149.1.2.2 r152 15 = true then (bnO (gn_SB_append2 r152 v151 p149.1.2.1 p149.1.2.2) fun p153 => adC p153.2.1 p153.2.2 (rfB p153.1.1 fun r155 => if isK p153.1.2.2 r155 15 = true then (bnO (gn_SB_append r155 (XB + 15) p153.1.2.1 p153.1.2.2) fun p156 => adC p156.2.1 p156.2.2 (rfB p156.1.1 fun r158 => if isK p156.1.2.2 r158 15 = true then (bnO (gn_SB_toString r158 p156.1.2.1 p156.1.2.2) fun p159 => adC p159.2.1 p159.2.2 (kk p159)) else none)) else none)) else none)) else none)) else none)) else none)) else none)) else none)) else none) else (rfB p128.1.1 fun r162 => if isK p128.1.2.2 r162 15 = true then (bnO (gn_SB_append2 r162 1 p128.1.2.1 p128.1.2.2) fun p163 => adC p163.2.1 p163.2.2 (rfB p163.1.1 fun r165 => if isK p163.1.2.2 r165 15 = true then (bnO (gn_SB_append r165 (XB + 14) p163.1.2.1 p163.1.2.2) fun p166 => adC p166.2.1 p166.2.2 (bnO (gfI p166.1.2.2 x 11 2) fun v168 => rfB p166.1.1 fun r169 => if isK p166.1.2.2 r169 15 = true then (bnO (gn_SB_append2 r169 v168 p166.1.2.1 p166.1.2.2) fun p170 => adC p170.2.1 p170.2.2 (rfB p170.1.1 fun r172 => if isK p170.1.2.2 r172 15 = true then (bnO (gn_SB_append r172 (XB + 14) p170.1.2.1 p170.1.2.2) fun p173 => adC p173.2.1 p173.2.2 (bnO (gfI p173.1.2.2 x 11 3) fun v175 => rfB p173.1.1 fun r176 => if isK p173.1.2.2 r176 15 = true then (bnO (gn_SB_append2 r176 v175 p173.1.2.1 p173.1.2.2) fun p177 => adC p177.2.1 p177.2.2 (rfB p177.1.1 fun r179 => if isK p177.1.2.2 r179 15 = true then (bnO (gn_SB_append r179 (XB + 14) p177.1.2.1 p177.1.2.2) fun p180 => adC p180.2.1 p180.2.2 (bnO (gfI p180.1.2.2 x 11 4) fun v182 => rfB p180.1.1 fun r183 => if isK p180.1.2.2 r183 15 = true then (bnO (gn_SB_append2 r183 v182 p180.1.2.1 p180.1.2.2) fun p184 => adC p184.2.1 p184.2.2 (rfB p184.1.1 fun r186 => if isK p184.1.2.2 r186 15 = true then (bnO (gn_SB_append r186 (XB + 15) p184.1.2.1 p184.1.2.2) fun p187 => adC p187.2.1 p187.2.2 (rfB p187.1.1 fun r189 => if isK p187.1.2.2 r189 15 = true then (bnO (gn_SB_toString r189 p187.1.2.1 p187.1.2.2) fun p190 => adC p190.2.1 p190.2.2 (kk p190)) else none)) else none)) else none)) else none)) else none)) else none)) else none)) else none)) else none))) else none)) else none)) else none)) else none)) else none)) else none)) else none) (2 + (psi N 16 + (2 + C))) (20 + (phi N 16 + (4 + N + T))) R := by
  subst h8
  obtain ⟨q13, q14, q15, q16, q17, q18, q19, q20, q21, q22, q23⟩ := litLen
  have nls := nl_
  have hpsi : psi N 16 + 4 ≤ N := by unfold psi; split <;> omega
  refine in_s (N := N) (M := K.length + 2 + psi N 16) (C := 2 + C) (T := 4 + N + T) hN2 (Nat.le_refl _) (by omega) (fun L0 u0 v0 h0 => ?_)
  dsimp only
  rw [rfB_r, if_pos h0.k]
  refine ap_s h0 ht (by show 0 + _ ≤ _; omega) (fun L1 c1 s1 u1 v1 h1 => ?_)
  dsimp only
  rw [List.nil_append] at h1
  rw [rfB_r, if_pos h1.k]
  refine ap_s h1 (st_lit nls.2.1.2.2.2.2.1) (by omega) (fun L2 c2 s2 u2 v2 h2 => ?_)
  dsimp only
  have e2 : (bs ++ litB 18).length = (bs).length + (litB 18).length := List.length_append
  rw [gfI_s (h2.sf.at0 hx) (f := 0) rfl (by unfold inR; omega), bnO_s, rfB_r, if_pos h2.k]
  refine an_s h2 (by omega) (by omega) (fun L3 c3 s3 u3 v3 h3 => ?_)
  dsimp only
  have e3 : (bs ++ litB 18 ++ dg s).length = (bs ++ litB 18).length + (dg s).length := List.length_append
  rw [rfB_r, if_pos h3.k]
  refine ap_s h3 (st_lit nls.2.1.1) (by omega) (fun L4 c4 s4 u4 v4 h4 => ?_)
  dsimp only
  have e4 : (bs ++ litB 18 ++ dg s ++ litB 14).length = (bs ++ litB 18 ++ dg s).length + (litB 14).length := List.length_append
  rw [gfI_s (h4.sf.at0 hx) (f := 1) rfl (by unfold inR; omega), bnO_s, rfB_r, if_pos h4.k]
  refine an_s h4 (by omega) (by omega) (fun L5 c5 s5 u5 v5 h5 => ?_)
  dsimp only
  have e5 : (bs ++ litB 18 ++ dg s ++ litB 14 ++ dg y).length = (bs ++ litB 18 ++ dg s ++ litB 14).length + (dg y).length := List.length_append
  rw [rfB_r, if_pos h5.k]
  refine ap_s h5 (st_lit nls.2.1.1) (by omega) (fun L6 c6 s6 u6 v6 h6 => ?_)
  dsimp only
  have e6 : (bs ++ litB 18 ++ dg s ++ litB 14 ++ dg y ++ litB 14).length = (bs ++ litB 18 ++ dg s ++ litB 14 ++ dg y).length + (litB 14).length := List.length_append
  rw [gfI_s (h6.sf.at0 hx) (f := 6) rfl (by unfold inR; omega), bnO_s, if_neg (by decide : ¬ (1 : Int) = 0), rfB_r, if_pos h6.k]
  refine an_s h6 (by omega) (by omega) (fun L7 c7 s7 u7 v7 h7 => ?_)
  dsimp only
  have e7 : (bs ++ litB 18 ++ dg s ++ litB 14 ++ dg y ++ litB 14 ++ dg 1).length = (bs ++ litB 18 ++ dg s ++ litB 14 ++ dg y ++ litB 14).length + (dg 1).length := List.length_append
  rw [rfB_r, if_pos h7.k]
  refine ap_s h7 (st_lit nls.2.1.1) (by omega) (fun L8 c8 s8 u8 v8 h8 => ?_)
  dsimp only
  have e8 : (bs ++ litB 18 ++ dg s ++ litB 14 ++ dg y ++ litB 14 ++ dg 1 ++ litB 14).length = (bs ++ litB 18 ++ dg s ++ litB 14 ++ dg y ++ litB 14 ++ dg 1).length + (litB 14).length := List.length_append
  rw [gfI_s (h8.sf.at0 hx) (f := 2) rfl (by unfold inR; omega), bnO_s, rfB_r, if_pos h8.k]
  refine an_s h8 (by omega) (by omega) (fun L9 c9 s9 u9 v9 h9 => ?_)
  dsimp only
  have e9 : (bs ++ litB 18 ++ dg s ++ litB 14 ++ dg y ++ litB 14 ++ dg 1 ++ litB 14 ++ dg d).length = (bs ++ litB 18 ++ dg s ++ litB 14 ++ dg y ++ litB 14 ++ dg 1 ++ litB 14).length + (dg d).length := List.length_append
  rw [rfB_r, if_pos h9.k]
  refine ap_s h9 (st_lit nls.2.1.1) (by omega) (fun L10 c10 s10 u10 v10 h10 => ?_)
  dsimp only
  have e10 : (bs ++ litB 18 ++ dg s ++ litB 14 ++ dg y ++ litB 14 ++ dg 1 ++ litB 14 ++ dg d ++ litB 14).length = (bs ++ litB 18 ++ dg s ++ litB 14 ++ dg y ++ litB 14 ++ dg 1 ++ litB 14 ++ dg d).length + (litB 14).length := List.length_append
  rw [gfI_s (h10.sf.at0 hx) (f := 3) rfl (by unfold inR; omega), bnO_s, rfB_r, if_pos h10.k]
  refine an_s h10 (by omega) (by omega) (fun L11 c11 s11 u11 v11 h11 => ?_)
  dsimp only
  have e11 : (bs ++ litB 18 ++ dg s ++ litB 14 ++ dg y ++ litB 14 ++ dg 1 ++ litB 14 ++ dg d ++ litB 14 ++ dg p).length = (bs ++ litB 18 ++ dg s ++ litB 14 ++ dg y ++ litB 14 ++ dg 1 ++ litB 14 ++ dg d ++ litB 14).length + (dg p).length := List.length_append
  rw [rfB_r, if_pos h11.k]
  refine ap_s h11 (st_lit nls.2.1.1) (by omega) (fun L12 c12 s12 u12 v12 h12 => ?_)
  dsimp only
  have e12 : (bs ++ litB 18 ++ dg s ++ litB 14 ++ dg y ++ litB 14 ++ dg 1 ++ litB 14 ++ dg d ++ litB 14 ++ dg p ++ litB 14).length = (bs ++ litB 18 ++ dg s ++ litB 14 ++ dg y ++ litB 14 ++ dg 1 ++ litB 14 ++ dg d ++ litB 14 ++ dg p).length + (litB 14).length := List.length_append
  rw [gfI_s (h12.sf.at0 hx) (f := 4) rfl (by unfold inR; omega), bnO_s, rfB_r, if_pos h12.k]
  refine an_s h12 (by omega) (by omega) (fun L13 c13 s13 u13 v13 h13 => ?_)
  dsimp only
  have e13 : (bs ++ litB 18 ++ dg s ++ litB 14 ++ dg y ++ litB 14 ++ dg 1 ++ litB 14 ++ dg d ++ litB 14 ++ dg p ++ litB 14 ++ dg r).length = (bs ++ litB 18 ++ dg s ++ litB 14 ++ dg y ++ litB 14 ++ dg 1 ++ litB 14 ++ dg d ++ litB 14 ++ dg p ++ litB 14).length + (dg r).length := List.length_append
  rw [rfB_r, if_pos h13.k]
  refine ap_s h13 (st_lit nls.2.1.2.1) (by omega) (fun L14 c14 s14 u14 v14 h14 => ?_)
  dsimp only
  have e14 : (bs ++ litB 18 ++ dg s ++ litB 14 ++ dg y ++ litB 14 ++ dg 1 ++ litB 14 ++ dg d ++ litB 14 ++ dg p ++ litB 14 ++ dg r ++ litB 15).length = (bs ++ litB 18 ++ dg s ++ litB 14 ++ dg y ++ litB 14 ++ dg 1 ++ litB 14 ++ dg d ++ litB 14 ++ dg p ++ litB 14 ++ dg r).length + (litB 15).length := List.length_append
  rw [rfB_r, if_pos h14.k]
  have ef : bs ++ litB 18 ++ dg s ++ litB 14 ++ dg y ++ litB 14 ++ dg 1 ++ litB 14 ++ dg d ++ litB 14 ++ dg p ++ litB 14 ++ dg r ++ litB 15 = bs ++ txS (sAd s y 1 d p r) := by
    show bs ++ litB 18 ++ dg s ++ litB 14 ++ dg y ++ litB 14 ++ dg 1 ++ litB 14 ++ dg d ++ litB 14 ++ dg p ++ litB 14 ++ dg r ++ litB 15 = bs ++ (litB 18 ++ dg s ++ litB 14 ++ dg y ++ litB 14 ++ dg 1 ++ litB 14 ++ dg d ++ litB 14 ++ dg p ++ litB 14 ++ dg r ++ litB 15)
    simp only [List.append_assoc]
  refine (st_s (C := C) (T := T) h14 (by omega) (fun t' Lz u v y1 y2 y3 y4 => ?_)).mono (by omega) (by omega) (fun _ q => q)
  rw [ef] at y1
  exact hk t' Lz u v y1 y2 y3 (by omega)
theorem tx_st1 {kk : (Value × LZ) × Nat × Nat → Option (β × Nat × Nat)} {s y d p r : Int} {x : Nat} (ht : StH K t bs) (h8 : c5 = Value.ref t) (hx : hp K x = some (11, itV s y d p r 0 1)) (i1 : 0 ≤ s ∧ s < 9) (i3 : 0 ≤ d ∧ d < 9) (i5 : 0 ≤ r ∧ r < 99) (d1 : (dg s).length = 1) (d3 : (dg d).length = 1) (d5 : (dg r).length ≤ 2) (d6 : (dg 1).length = 1) (hN : bs.length + 15 ≤ N) (hN2 : N ≤ 1500) (hK : K.length < 500000000)
    (hk : ∀ t' K' u v, StH K' t' (bs ++ txS (sSt s 1 d r)) → nCell + K.length ≤ t' → Sf F0_ K K' → K'.length ≤ K.length + N → Ok (kk ((Value.ref t', (S, K')), u, v)) C T R) :
    Ok (if K.length < 900000000 then adC 1 4 (nw K (15, dfl 15) fun r227 L228 => bnO (gn_SB_init r227 S L228) fun p230 => adC p230.2.1 p230.2.2 (rfB c5 fun r231 => if isK p230.1.2 r227 15 = true then (bnO (gn_SB_append r227 r231 p230.1.1 p230.1.2) fun p232 => adC p232.2.1 p232.2.2 (rfB p232.1.1 fun r234 => if isK p232.1.2.2 r234 15 = true then (bnO (gn_SB_append r234 (XB + 19) p232.1.2.1 p232.1.2.2) fun p235 => adC p235.2.1 p235.2.2 (bnO (gfI p235.1.2.2 x 11 0) fun v237 => rfB p235.1.1 fun r238 => if isK p235.1.2.2 r238 15 = true then (bnO (gn_SB_append2 r238 v237 p235.1.2.1 p235.1.2.2) fun p239 => adC p239.2.1 p239.2.2 (rfB p239.1.1 fun r241 => if isK p239.1.2.2 r241 15 = true then (bnO (gn_SB_append r241 (XB + 14) p239.1.2.1 p239.1.2.2) fun p242 => adC p242.2.1 p242.2.2 (bnO (gfI p242.1.2.2 x 11 6) fun v244 => if v244 = 0 then (rfB p242.1.1 fun r245 => if isK p242.1.2.2 r245 15 = true then (bnO (gn_SB_append2 r245 0 p242.1.2.1 p242.1.2.2) fun p246 => adC p246.2.1 p246.2.2 (rfB p246.1.1 fun r248 => if isK p246.1.2.2 r248 15 = true then (bnO (gn_SB_append r248 (XB + 14) p246.1.2.1 p246.1.2.2) fun p249 => adC p249.2.1 p249.2.2 (bnO (gfI p249.1.2.2 x 11 2) fun v251 => rfB p249.1.1 fun r252 => if isK p249.1.2.2 r252 15 = true then (bnO (gn_SB_append2 r252 v251 p249.1.2.1 p249.1.2.2) fun p253 => adC p253.2.1 p253.2.2 (rfB p253.1.1 fun r255 => if isK p253.1.2.2 r255 15 = true then (bnO (gn_SB_append r255 (XB + 14) p253.1.2.1 p253.1.2.2) fun p256 => adC p256.2.1 p256.2.2 (bnO (gfI p256.1.2.2 x 11 4) fun v258 => rfB p256.1.1 fun r259 => if isK p256.1.2.2 r259 15 = true then (bnO (gn_SB_append2 r259 v258 p256.1.2.1 p256.1.2.2) fun p260 => adC p260.2.1 p260.2.2 (rfB p260.1.1 fun r262 => if isK p260.1.2.2 r262 15 = true then (bnO (gn_SB_append r262 (XB + 15) p260.1.2.1 p260.1.2.2) fun p263 => adC p263.2.1 p263.2.2 (rfB p263.1.1 fun r265 => if isK p263.1.2.2 r265 15 = true then (bnO (gn_SB_toString r265 p263.1.2.1 p263.1.2.2) fun p266 => adC p266.2.1 p266.2.2 (kk p266)) else none)) else none)) else none)) else none)) else none)) else none)) else none) else (rfB p242.1.1 fun r269 => if isK p242.1.2.2 r269 15 = true then (bnO (gn_SB_append2 r269 1 p242.1.2.1 p242.1.2.2) fun p270 => adC p270.2.1 p270.2.2 (rfB p270.1.1 fun r272 => if isK p270.1.2.2 r272 15 = true then (bnO (gn_SB_append r272 (XB + 14) p270.1.2.1 p270.1.2.2) fun p273 => adC p273.2.1 p273.2.2 (bnO (gfI p273.1.2.2 x 11 2) fun v275 => rfB p273.1.1 fun r276 => if isK p273.1.2.2 r276 15 = true then (bnO (gn_SB_append2 r276 v275 p273.1.2.1 p273.1.2.2) fun p277 => adC p277.2.1 p277.2.2 (rfB p277.1.1 fun r279 => if isK p277.1.2.2 r279 15 = true then (bnO (gn_SB_append r279 (XB + 14) p277.1.2.1 p277.1.2.2) fun p280 => adC p280.2.1 p280.2.2 (bnO (gfI p280.1.2.2 x 11 4) fun v282 => rfB p280.1.1 fun r283 => if isK p280.1.2.2 r283 15 = true then (bnO (gn_SB_append2 r283 v282 p280.1.2.1 p280.1.2.2) fun p284 => adC p284.2.1 p284.2.2 (rfB p284.1.1 fun r286 => if isK p284.1.2.2 r286 15 = true then (bnO (gn_SB_append r286 (XB + 15) p284.1.2.1 p284.1.2.2) fun p287 => adC p287.2.1 p287.2.2 (rfB p287.1.1 fun r289 => if isK p287.1.2.2 r289 15 = true then (bnO (gn_SB_toString r289 p287.1.2.1 p287.1.2.2) fun p290 => adC p290.2.1 p290.2.2 (kk p290)) else none)) else none)) else none)) else none)) else none)) else none)) else none))) else none)) else none)) else none)) else none)) else none) (2 + (psi N 16 + (2 + C))) (20 + (phi N 16 + (4 + N + T))) R := by
  subst h8
  obtain ⟨q13, q14, q15, q16, q17, q18, q19, q20, q21, q22, q23⟩ := litLen
  have nls := nl_
  have hpsi : psi N 16 + 4 ≤ N := by unfold psi; split <;> omega
  refine in_s (N := N) (M := K.length + 2 + psi N 16) (C := 2 + C) (T := 4 + N + T) hN2 (Nat.le_refl _) (by omega) (fun L0 u0 v0 h0 => ?_)
  dsimp only
  rw [rfB_r, if_pos h0.k]
  refine ap_s h0 ht (by show 0 + _ ≤ _; omega) (fun L1 c1 s1 u1 v1 h1 => ?_)
  dsimp only
  rw [List.nil_append] at h1
  rw [rfB_r, if_pos h1.k]
  refine ap_s h1 (st_lit nls.2.1.2.2.2.2.2) (by omega) (fun L2 c2 s2 u2 v2 h2 => ?_)
  dsimp only
  have e2 : (bs ++ litB 19).length = (bs).length + (litB 19).length := List.length_append
  rw [gfI_s (h2.sf.at0 hx) (f := 0) rfl (by unfold inR; omega), bnO_s, rfB_r, if_pos h2.k]
  refine an_s h2 (by omega) (by omega) (fun L3 c3 s3 u3 v3 h3 => ?_)
  dsimp only
  have e3 : (bs ++ litB 19 ++ dg s).length = (bs ++ litB 19).length + (dg s).length := List.length_append
  rw [rfB_r, if_pos h3.k]
  refine ap_s h3 (st_lit nls.2.1.1) (by omega) (fun L4 c4 s4 u4 v4 h4 => ?_)
  dsimp only
  have e4 : (bs ++ litB 19 ++ dg s ++ litB 14).length = (bs ++ litB 19 ++ dg s).length + (litB 14).length := List.length_append
  rw [gfI_s (h4.sf.at0 hx) (f := 6) rfl (by unfold inR; omega), bnO_s, if_neg (by decide : ¬ (1 : Int) = 0), rfB_r, if_pos h4.k]
  refine an_s h4 (by omega) (by omega) (fun L5 c5 s5 u5 v5 h5 => ?_)
  dsimp only
  have e5 : (bs ++ litB 19 ++ dg s ++ litB 14 ++ dg 1).length = (bs ++ litB 19 ++ dg s ++ litB 14).length + (dg 1).length := List.length_append
  rw [rfB_r, if_pos h5.k]
  refine ap_s h5 (st_lit nls.2.1.1) (by omega) (fun L6 c6 s6 u6 v6 h6 => ?_)
  dsimp only
  have e6 : (bs ++ litB 19 ++ dg s ++ litB 14 ++ dg 1 ++ litB 14).length = (bs ++ litB 19 ++ dg s ++ litB 14 ++ dg 1).length + (litB 14).length := List.length_append
  rw [gfI_s (h6.sf.at0 hx) (f := 2) rfl (by unfold inR; omega), bnO_s, rfB_r, if_pos h6.k]
  refine an_s h6 (by omega) (by omega) (fun L7 c7 s7 u7 v7 h7 => ?_)
  dsimp only
  have e7 : (bs ++ litB 19 ++ dg s ++ litB 14 ++ dg 1 ++ litB 14 ++ dg d).length = (bs ++ litB 19 ++ dg s ++ litB 14 ++ dg 1 ++ litB 14).length + (dg d).length := List.length_append
  rw [rfB_r, if_pos h7.k]
  refine ap_s h7 (st_lit nls.2.1.1) (by omega) (fun L8 c8 s8 u8 v8 h8 => ?_)
  dsimp only
  have e8 : (bs ++ litB 19 ++ dg s ++ litB 14 ++ dg 1 ++ litB 14 ++ dg d ++ litB 14).length = (bs ++ litB 19 ++ dg s ++ litB 14 ++ dg 1 ++ litB 14 ++ dg d).length + (litB 14).length := List.length_append
  rw [gfI_s (h8.sf.at0 hx) (f := 4) rfl (by unfold inR; omega), bnO_s, rfB_r, if_pos h8.k]
  refine an_s h8 (by omega) (by omega) (fun L9 c9 s9 u9 v9 h9 => ?_)
  dsimp only
  have e9 : (bs ++ litB 19 ++ dg s ++ litB 14 ++ dg 1 ++ litB 14 ++ dg d ++ litB 14 ++ dg r).length = (bs ++ litB 19 ++ dg s ++ litB 14 ++ dg 1 ++ litB 14 ++ dg d ++ litB 14).length + (dg r).length := List.length_append
  rw [rfB_r, if_pos h9.k]
  refine ap_s h9 (st_lit nls.2.1.2.1) (by omega) (fun L10 c10 s10 u10 v10 h10 => ?_)
  dsimp only
  have e10 : (bs ++ litB 19 ++ dg s ++ litB 14 ++ dg 1 ++ litB 14 ++ dg d ++ litB 14 ++ dg r ++ litB 15).length = (bs ++ litB 19 ++ dg s ++ litB 14 ++ dg 1 ++ litB 14 ++ dg d ++ litB 14 ++ dg r).length + (litB 15).length := List.length_append
  rw [rfB_r, if_pos h10.k]
  have ef : bs ++ litB 19 ++ dg s ++ litB 14 ++ dg 1 ++ litB 14 ++ dg d ++ litB 14 ++ dg r ++ litB 15 = bs ++ txS (sSt s 1 d r) := by
    show bs ++ litB 19 ++ dg s ++ litB 14 ++ dg 1 ++ litB 14 ++ dg d ++ litB 14 ++ dg r ++ litB 15 = bs ++ (litB 19 ++ dg s ++ litB 14 ++ dg 1 ++ litB 14 ++ dg d ++ litB 14 ++ dg r ++ litB 15)
    simp only [List.append_assoc]
  refine (st_s (C := C) (T := T) h10 (by omega) (fun t' Lz u v y1 y2 y3 y4 => ?_)).mono (by omega) (by omega) (fun _ q => q)
  rw [ef] at y1
  exact hk t' Lz u v y1 y2 y3 (by omega)
theorem tx_cl {kk : (Value × LZ) × Nat × Nat → Option (β × Nat × Nat)} {P : PA} {W : Vw} {y m2 y3 y24 f z : Int} (ht : StH K t bs) (h8 : c5 = Value.ref t) (hP : HP K P W) (hV : Val W) (q1 : wr (2 * sg W) = m2) (q2 : wr (y.tdiv 3) = y3) (q0 : 0 < m2) (q3 : wr (y3.tmod m2) = f) (q4 : wr (y.tdiv 24) = y24) (q5 : wr (1 + y24.tmod 30) = z) (hf : 0 ≤ f ∧ f < 9) (hz : 0 ≤ z ∧ z < 99) (d1 : (dg f).length = 1) (d2 : (dg z).length ≤ 2) (hN : bs.length + 11 ≤ N) (hN2 : N ≤ 1500) (hK : K.length < 500000000)
    (hk : ∀ t' K' u v, StH K' t' (bs ++ txS (sCl f z)) → nCell + K.length ≤ t' → Sf F0_ K K' → K'.length ≤ K.length + N → Ok (kk ((Value.ref t', (S, K')), u, v)) C T R) :
    Ok (if K.length < 900000000 then adC 1 4 (nw K (15, dfl 15) fun r349 L350 => bnO (gn_SB_init r349 S L350) fun p352 => adC p352.2.1 p352.2.2 (rfB c5 fun r353 => if isK p352.1.2 r349 15 = true then (bnO (gn_SB_append r349 r353 p352.1.1 p352.1.2) fun p354 => adC p354.2.1 p354.2.2 (rfB p354.1.1 fun r356 => if isK p354.1.2.2 r356 15 = true then (bnO (gn_SB_append r356 (XB + 21) p354.1.2.1 p354.1.2.2) fun p357 => adC p357.2.1 p357.2.2 (bnO (gfI p357.1.2.2 (pT P) 12 0) fun v359 => nm (wr (2 * v359)) fun v360 => nm (wr (y.tdiv 3)) fun v361 => if 0 < v360 then (nm (wr (v361.tmod v360)) fun v363 => rfB p357.1.1 fun r364 => if isK p357.1.2.2 r364 15 = true then (bnO (gn_SB_append2 r364 v363 p357.1.2.1 p357.1.2.2) fun p365 => adC p365.2.1 p365.2.2 (rfB p365.1.1 fun r367 => if isK p365.1.2.2 r367 15 = true then (bnO (gn_SB_append r367 (XB + 14) p365.1.2.1 p365.1.2.2) fun p368 => adC p368.2.1 p368.2.2 (nm (wr (y.tdiv 24)) fun v370 => nm (wr (1 + (v370.tmod 30))) fun v371 => rfB p368.1.1 fun r372 => if isK p368.1.2.2 r372 15 = true then (bnO (gn_SB_append2 r372 v371 p368.1.2.1 p368.1.2.2) fun p373 => adC p373.2.1 p373.2.2 (rfB p373.1.1 fun r375 => if isK p373.1.2.2 r375 15 = true then (bnO (gn_SB_append r375 (XB + 15) p373.1.2.1 p373.1.2.2) fun p376 => adC p376.2.1 p376.2.2 (rfB p376.1.1 fun r378 => if isK p376.1.2.2 r378 15 = true then (bnO (gn_SB_toString r378 p376.1.2.1 p376.1.2.2) fun p379 => adC p379.2.1 p379.2.2 (kk p379)) else none)) else none)) else none)) else none)) else none) else none)) else none)) else none)) else none) (2 + (psi N 16 + (2 + C))) (20 + (phi N 16 + (4 + N + T))) R := by
  subst h8
  obtain ⟨q13, q14, q15, q16, q17, q18, q19, q20, q21, q22, q23⟩ := litLen
  have nls := nl_
  have hpsi : psi N 16 + 4 ≤ N := by unfold psi; split <;> omega
  refine in_s (N := N) (M := K.length + 2 + psi N 16) (C := 2 + C) (T := 4 + N + T) hN2 (Nat.le_refl _) (by omega) (fun L0 u0 v0 h0 => ?_)
  dsimp only
  rw [rfB_r, if_pos h0.k]
  refine ap_s h0 ht (by show 0 + _ ≤ _; omega) (fun L1 c1 s1 u1 v1 h1 => ?_)
  dsimp only
  rw [List.nil_append] at h1
  rw [rfB_r, if_pos h1.k]
  refine ap_s h1 (st_lit nls.2.2.2.1) (by omega) (fun L2 c2 s2 u2 v2 h2 => ?_)
  dsimp only
  have e2 : (bs ++ litB 21).length = (bs).length + (litB 21).length := List.length_append
  rw [(hP.sf0 h2.sf).gg hV, bnO_s, nm_x, q1, nm_x, q2, if_pos q0, nm_x, q3, rfB_r, if_pos h2.k]
  refine an_s h2 (by omega) (by omega) (fun L3 c3 s3 u3 v3 h3 => ?_)
  dsimp only
  have e3 : (bs ++ litB 21 ++ dg f).length = (bs ++ litB 21).length + (dg f).length := List.length_append
  rw [rfB_r, if_pos h3.k]
  refine ap_s h3 (st_lit nls.2.1.1) (by omega) (fun L4 c4 s4 u4 v4 h4 => ?_)
  dsimp only
  have e4 : (bs ++ litB 21 ++ dg f ++ litB 14).length = (bs ++ litB 21 ++ dg f).length + (litB 14).length := List.length_append
  rw [nm_x, q4, nm_x, q5, rfB_r, if_pos h4.k]
  refine an_s h4 (by omega) (by omega) (fun L5 c5 s5 u5 v5 h5 => ?_)
  dsimp only
  have e5 : (bs ++ litB 21 ++ dg f ++ litB 14 ++ dg z).length = (bs ++ litB 21 ++ dg f ++ litB 14).length + (dg z).length := List.length_append
  rw [rfB_r, if_pos h5.k]
  refine ap_s h5 (st_lit nls.2.1.2.1) (by omega) (fun L6 c6 s6 u6 v6 h6 => ?_)
  dsimp only
  have e6 : (bs ++ litB 21 ++ dg f ++ litB 14 ++ dg z ++ litB 15).length = (bs ++ litB 21 ++ dg f ++ litB 14 ++ dg z).length + (litB 15).length := List.length_append
  rw [rfB_r, if_pos h6.k]
  have ef : bs ++ litB 21 ++ dg f ++ litB 14 ++ dg z ++ litB 15 = bs ++ txS (sCl f z) := by
    show bs ++ litB 21 ++ dg f ++ litB 14 ++ dg z ++ litB 15 = bs ++ (litB 21 ++ dg f ++ litB 14 ++ dg z ++ litB 15)
    simp only [List.append_assoc]
  refine (st_s (C := C) (T := T) h6 (by omega) (fun t' Lz u v y1 y2 y3 y4 => ?_)).mono (by omega) (by omega) (fun _ q => q)
  rw [ef] at y1
  exact hk t' Lz u v y1 y2 y3 (by omega)
theorem tx_hd {kk : (Value × LZ) × Nat × Nat → Option (β × Nat × Nat)} {P : PA} {W : Vw} (hP : HP K P W) (hV : Val W) (hf : 0 ≤ sg W ∧ sg W < 9) (hz : 0 ≤ pe W ∧ pe W < 99) (d1 : (dg (sg W)).length = 1) (d2 : (dg (pe W)).length ≤ 2) (hN : 10 ≤ N) (hN2 : N ≤ 1500) (hK : K.length < 500000000)
    (hk : ∀ t' K' u v, StH K' t' (litB 13 ++ dg (sg W) ++ litB 14 ++ dg (pe W) ++ litB 15) → nCell + K.length ≤ t' → Sf F0_ K K' → K'.length ≤ K.length + N → Ok (kk ((Value.ref t', (S, K')), u, v)) C T R) :
    Ok (if K.length < 900000000 then adC 1 4 (nw K (15, dfl 15) fun r18 L19 => bnO (gn_SB_init r18 S L19) fun p21 => adC p21.2.1 p21.2.2 (if isK p21.1.2 r18 15 = true then (bnO (gn_SB_append r18 (XB + 13) p21.1.1 p21.1.2) fun p22 => adC p22.2.1 p22.2.2 (bnO (gfI p22.1.2.2 (pT P) 12 0) fun v24 => rfB p22.1.1 fun r25 => if isK p22.1.2.2 r25 15 = true then (bnO (gn_SB_append2 r25 v24 p22.1.2.1 p22.1.2.2) fun p26 => adC p26.2.1 p26.2.2 (rfB p26.1.1 fun r28 => if isK p26.1.2.2 r28 15 = true then (bnO (gn_SB_append r28 (XB + 14) p26.1.2.1 p26.1.2.2) fun p29 => adC p29.2.1 p29.2.2 (bnO (gfI p29.1.2.2 (pT P) 12 1) fun v31 => rfB p29.1.1 fun r32 => if isK p29.1.2.2 r32 15 = true then (bnO (gn_SB_append2 r32 v31 p29.1.2.1 p29.1.2.2) fun p33 => adC p33.2.1 p33.2.2 (rfB p33.1.1 fun r35 => if isK p33.1.2.2 r35 15 = true then (bnO (gn_SB_append r35 (XB + 15) p33.1.2.1 p33.1.2.2) fun p36 => adC p36.2.1 p36.2.2 (rfB p36.1.1 fun r38 => if isK p36.1.2.2 r38 15 = true then (bnO (gn_SB_toString r38 p36.1.2.1 p36.1.2.2) fun p39 => adC p39.2.1 p39.2.2 (kk p39)) else none)) else none)) else none)) else none)) else none)) else none)) else none) (2 + (psi N 16 + (2 + C))) (20 + (phi N 16 + (4 + N + T))) R := by
  obtain ⟨q13, q14, q15, q16, q17, q18, q19, q20, q21, q22, q23⟩ := litLen
  have nls := nl_
  have hpsi : psi N 16 + 4 ≤ N := by unfold psi; split <;> omega
  refine in_s (N := N) (M := K.length + 2 + psi N 16) (C := 2 + C) (T := 4 + N + T) hN2 (Nat.le_refl _) (by omega) (fun L0 u0 v0 h0 => ?_)
  dsimp only
  rw [if_pos h0.k]
  refine ap_s h0 (st_lit nls.1.2.2.2.2.2) (by show 0 + _ ≤ _; omega) (fun L1 c1 s1 u1 v1 h1 => ?_)
  dsimp only
  rw [List.nil_append] at h1
  rw [(hP.sf0 h1.sf).gg hV, bnO_s, rfB_r, if_pos h1.k]
  refine an_s h1 (by omega) (by omega) (fun L2 c2 s2 u2 v2 h2 => ?_)
  dsimp only
  have e2 : (litB 13 ++ dg (sg W)).length = (litB 13).length + (dg (sg W)).length := List.length_append
  rw [rfB_r, if_pos h2.k]
  refine ap_s h2 (st_lit nls.2.1.1) (by omega) (fun L3 c3 s3 u3 v3 h3 => ?_)
  dsimp only
  have e3 : (litB 13 ++ dg (sg W) ++ litB 14).length = (litB 13 ++ dg (sg W)).length + (litB 14).length := List.length_append
  rw [(hP.sf0 h3.sf).ss hV, bnO_s, rfB_r, if_pos h3.k]
  refine an_s h3 (by omega) (by omega) (fun L4 c4 s4 u4 v4 h4 => ?_)
  dsimp only
  have e4 : (litB 13 ++ dg (sg W) ++ litB 14 ++ dg (pe W)).length = (litB 13 ++ dg (sg W) ++ litB 14).length + (dg (pe W)).length := List.length_append
  rw [rfB_r, if_pos h4.k]
  refine ap_s h4 (st_lit nls.2.1.2.1) (by omega) (fun L5 c5 s5 u5 v5 h5 => ?_)
  dsimp only
  have e5 : (litB 13 ++ dg (sg W) ++ litB 14 ++ dg (pe W) ++ litB 15).length = (litB 13 ++ dg (sg W) ++ litB 14 ++ dg (pe W)).length + (litB 15).length := List.length_append
  rw [rfB_r, if_pos h5.k]
  have ef : litB 13 ++ dg (sg W) ++ litB 14 ++ dg (pe W) ++ litB 15 = litB 13 ++ dg (sg W) ++ litB 14 ++ dg (pe W) ++ litB 15 := by
    show litB 13 ++ dg (sg W) ++ litB 14 ++ dg (pe W) ++ litB 15 = litB 13 ++ dg (sg W) ++ litB 14 ++ dg (pe W) ++ litB 15
    rfl
  refine (st_s (C := C) (T := T) h5 (by omega) (fun t' Lz u v y1 y2 y3 y4 => ?_)).mono (by omega) (by omega) (fun _ q => q)
  rw [ef] at y1
  exact hk t' Lz u v y1 y2 y3 (by omega)
end PlanTx
