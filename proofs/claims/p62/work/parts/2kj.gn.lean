def lb2_Law_plan_98 (sc : SC) (c0 : Nat) (a2 : Int) (a3 : Int) (go : Value × Int × LZ → Option ((Value × LZ) × Nat × Nat)) (c5 : Value) (a6 : Int) (S : St) (L : List PC) : Option ((Value × LZ) × Nat × Nat) := bnO (gfI L c0 12 0) fun v41 => nm (wr (2 * v41)) fun v42 => if v42 ≤ a6 then (some ((c5, (S, L)), 0, 0)) else (if (i_and (i_shr (a3.tdiv 16) a6) 1) = 0 then (nm (wr (a6 + 1)) fun v67 => go (c5, v67, (S, L))) else (bnO (gfV L c0 12 7) fun v43 => rfB v43 fun r44 => bnO (ast L 102 r44 a6 (V (i_nz 1))) fun L45 => if L45.length < 900000000 then adC 1 4 (nw L45 (15, dfl 15) fun r47 L48 => bnO (gn_SB_init r47 S L48) fun p50 => adC p50.2.1 p50.2.2 (rfB c5 fun r51 => if isK p50.1.2 r47 15 = true then (bnO (gn_SB_append r47 r51 p50.1.1 p50.1.2) fun p52 => adC p52.2.1 p52.2.2 (rfB p52.1.1 fun r54 => if isK p52.1.2.2 r54 15 = true then (bnO (gn_SB_append r54 (XB + 16) p52.1.2.1 p52.1.2.2) fun p55 => adC p55.2.1 p55.2.2 (rfB p55.1.1 fun r57 => if isK p55.1.2.2 r57 15 = true then (bnO (gn_SB_append2 r57 a6 p55.1.2.1 p55.1.2.2) fun p58 => adC p58.2.1 p58.2.2 (rfB p58.1.1 fun r60 => if isK p58.1.2.2 r60 15 = true then (bnO (gn_SB_append r60 (XB + 17) p58.1.2.1 p58.1.2.2) fun p61 => adC p61.2.1 p61.2.2 (rfB p61.1.1 fun r63 => if isK p61.1.2.2 r63 15 = true then (bnO (gn_SB_toString r63 p61.1.2.1 p61.1.2.2) fun p64 => adC p64.2.1 p64.2.2 (nm (wr (a6 + 1)) fun v66 => go (p64.1.1, v66, (p64.1.2.1, p64.1.2.2)))) else none)) else none)) else none)) else none)) else none)) else none))
def lo2_Law_plan_98 (sc : SC) (c0 : Nat) (a2 : Int) (a3 : Int) : Nat → Value × Int × LZ → Option ((Value × LZ) × Nat × Nat) := lp fun go p => lb2_Law_plan_98 sc c0 a2 a3 go p.1 p.2.1 p.2.2.1 p.2.2.2
theorem tl2_Law_plan_98 {sc : SC} {c0 : Nat} {a2 : Int} (ha2 : inR a2) {a3 : Int} (ha3 : inR a3) {K : Option Value → List PC → Prop} {mc ms kt nt : Nat} (hkt : kt ≤ mc) (hnt : nt ≤ ms) : ∀ (N : Nat) (a : Value × Int × LZ) (q : (Value × LZ) × Nat × Nat), lo2_Law_plan_98 sc c0 a2 a3 N a = some q → ∀ k n, Bd k n kt nt q → (a.1 = .null ∨ ∃ b, a.1 = .ref b) → inR a.2.1 → ((q.1.1 = .null ∨ ∃ b, q.1.1 = .ref b) → GX sc M_Law_plan mc ms 172 [(0, .ref c0), (1, .ref (XB + 200)), (2, V a2), (3, V a3), (5, q.1.1)] [] (wz q.1.2) kt nt K) → GX sc M_Law_plan mc ms 98 [(0, .ref c0), (1, .ref (XB + 200)), (2, V a2), (3, V a3), (5, a.1), (6, V a.2.1)] [] (wz a.2.2) k n K := by
  refine lp_ind2 (P := fun (a : Value × Int × LZ) (q : (Value × LZ) × Nat × Nat) => ∀ k n, Bd k n kt nt q → (a.1 = .null ∨ ∃ b, a.1 = .ref b) → inR a.2.1 → ((q.1.1 = .null ∨ ∃ b, q.1.1 = .ref b) → GX sc M_Law_plan mc ms 172 [(0, .ref c0), (1, .ref (XB + 200)), (2, V a2), (3, V a3), (5, q.1.1)] [] (wz q.1.2) kt nt K) → GX sc M_Law_plan mc ms 98 [(0, .ref c0), (1, .ref (XB + 200)), (2, V a2), (3, V a3), (5, a.1), (6, V a.2.1)] [] (wz a.2.2) k n K) (fun go ih a q h => ?_)
  obtain ⟨c5, a6, ⟨S, L⟩⟩ := a
  intro k n hb hc5 ha6 hx
  show GX sc M_Law_plan mc ms 98 [(0, .ref c0), (1, .ref (XB + 200)), (2, V a2), (3, V a3), (5, c5), (6, V a6)] [] (wz (S, L)) k n K
  replace h : lb2_Law_plan_98 sc c0 a2 a3 go c5 a6 S L = some q := h
  unfold lb2_Law_plan_98 at h
  refine x_iload (pc := 98) (j := 5) (dK D_Law_plan_1 8 rfl) rfl ?_
  refine wx_iconst (pc := 100) (dK D_Law_plan_1 9 rfl) ?_
  refine x_aloadn (pc := 101) (i0 := 0) (j := 0) (dK D_Law_plan_1 10 rfl) rfl rfl ?_
  refine bnE h ?_
  clear h
  intro v41 e_v41 h
  refine wx_getI (pc := 102) (ci := 12) (f := 0) e_v41 (dK D_Law_plan_1 11 rfl) q_768 (ltK rfl) (ltK rfl) ?_
  refine wx_imul (pc := 105) (dK D_Law_plan_1 12 rfl) ?_
  refine nmE h ?_
  clear h
  intro v42 e_v42 h
  refine wtop e_v42 ?_
  refine wx_icmp_ge (pc := 106) (t := 172) (dK D_Law_plan_1 13 rfl) rfl ha6 (Vn_in e_v42) (fun hc69 => ?_) (fun hc69 => ?_)
  · replace h := ifP h hc69
    obtain rfl := Option.some.inj h
    refine x_weak (ls' := [(0, .ref c0), (1, .ref (XB + 200)), (2, V a2), (3, V a3), (5, c5)]) (sbc 0 rfl (sbc 1 rfl (sbc 2 rfl (sbc 3 rfl (sbc 4 rfl sbn))))) ?_
    refine x_room (bdk hb) (bdn hb) ?_
    exact hx hc5
  · replace h := ifN h hc69
    refine x_iloadn (pc := 109) (i0 := 3) (j := 3) (dK D_Law_plan_1 14 rfl) rfl rfl ?_
    refine wx_bipush (pc := 110) (dK D_Law_plan_1 15 rfl) rfl ?_
    refine wx_idiv (pc := 112) (dK D_Law_plan_1 16 rfl) ha3 (inRk rfl) (by decide) ?_
    refine x_iload (pc := 113) (j := 5) (dK D_Law_plan_1 17 rfl) rfl ?_
    refine wx_ishr (pc := 115) (dK D_Law_plan_1 18 rfl) ?_
    refine wx_iconst (pc := 116) (dK D_Law_plan_1 19 rfl) ?_
    refine wx_iand (pc := 117) (dK D_Law_plan_1 20 rfl) ?_
    refine wx_if_ne (pc := 118) (t := 124) (dK D_Law_plan_1 21 rfl) rfl (toInt_in _) (fun hc68 => ?_) (fun hc68 => ?_)
    · replace h := ifN h hc68
      refine x_aloadn (pc := 124) (i0 := 0) (j := 0) (dK D_Law_plan_1 23 rfl) rfl rfl ?_
      refine bnE h ?_
      clear h
      intro v43 e_v43 h
      refine wx_getV (pc := 125) (ci := 12) (f := 7) e_v43 (dK D_Law_plan_1 24 rfl) q_782 (ltK rfl) (ltK rfl) (fun hv43 => ?_)
      refine x_iload (pc := 128) (j := 5) (dK D_Law_plan_1 25 rfl) rfl ?_
      refine wx_iconst (pc := 130) (dK D_Law_plan_1 26 rfl) ?_
      refine rfE h ?_
      clear h
      intro r44 e_r44 h
      rw [e_r44]
      refine bnE h ?_
      clear h
      intro L45 e_L45 h
      refine wx_zast (Z := (S, L)) (pc := 131) (z := 1) e_L45 ha6 (dK D_Law_plan_1 27 rfl) ?_
      refine gdE h ?_
      clear h
      intro hl46 h
      obtain ⟨y49, h9, e9⟩ := adE2 h
      clear h
      subst e9
      have h := h9
      clear h9
      refine nwE h ?_
      clear h
      intro r47 L48 e_r47 e_L48 h
      have hk1 := Nat.le_trans (bd1 hb) hkt
      have hn1 := Nat.le_trans (bd2 hb) hnt
      replace hb := bdA hb
      refine wn_new (Z := (S, L45)) (pc := 132) (ci := 15) (N := 4) e_r47 e_L48 hl46 rfl (dK D_Law_plan_1 28 rfl) (ltK rfl) q_1275 q_1276 q_33 hk1 hn1 ?_
      refine x_dup (pc := 135) (dK D_Law_plan_1 29 rfl) rfl ?_
      refine bnE h ?_
      clear h
      intro p50 e_p50 h
      obtain ⟨yp50, h9, e9⟩ := adE2 h
      clear h
      subst e9
      have h := h9
      clear h9
      have hk1 := Nat.le_trans (bd1 hb) hkt
      have hn1 := Nat.le_trans (bd2 hb) hnt
      replace hb := bdA hb
      refine x_callI (pc := 136) (As := []) (rest := [.ref r47]) (mc' := p50.2.1) (ms' := p50.2.2) (dK D_Law_plan_1 30 rfl) Q_Law_165 (fitK rfl) rfl (leK rfl) hk1 hn1 (tg_SB_init  e_p50) (kxU ?_)
      refine x_aloadV (pc := 139) (j := 4) hc5 (dK D_Law_plan_1 31 rfl) rfl ?_
      refine rfE h ?_
      clear h
      intro r51 e_r51 h
      rw [e_r51]
      refine gdE h ?_
      clear h
      intro hk53 h
      refine bnE h ?_
      clear h
      intro p52 e_p52 h
      obtain ⟨yp52, h9, e9⟩ := adE2 h
      clear h
      subst e9
      have h := h9
      clear h9
      have hk1 := Nat.le_trans (bd1 hb) hkt
      have hn1 := Nat.le_trans (bd2 hb) hnt
      replace hb := bdA hb
      refine x_callX (pc := 141) (As := [.ref r51]) (rest := []) (mc' := p52.2.1) (ms' := p52.2.2) (dK D_Law_plan_1 32 rfl) Q_Law_168 sx_SB_append (fitK rfl) (isK_at (Z := (p50.1.1, p50.1.2)) (ci := 15) hk53) rfl (leK rfl) hk1 hn1 (tg_SB_append  e_p52) (kxR (fun h_p52 => ?_))
      refine x_ldcSw (own := "FlatPlanLaw") (text := "color ") (j := 16) rfl (dK D_Law_plan_1 33 rfl) (List.mem_of_getElem? (i := 16) rfl) ?_
      refine rfE h ?_
      clear h
      intro r54 e_r54 h
      rw [e_r54]
      refine gdE h ?_
      clear h
      intro hk56 h
      refine bnE h ?_
      clear h
      intro p55 e_p55 h
      obtain ⟨yp55, h9, e9⟩ := adE2 h
      clear h
      subst e9
      have h := h9
      clear h9
      have hk1 := Nat.le_trans (bd1 hb) hkt
      have hn1 := Nat.le_trans (bd2 hb) hnt
      replace hb := bdA hb
      refine x_callX (pc := 147) (As := [.ref (XB + 16)]) (rest := []) (mc' := p55.2.1) (ms' := p55.2.2) (dK D_Law_plan_1 34 rfl) Q_Law_168 sx_SB_append (fitK rfl) (isK_at (Z := (p52.1.2.1, p52.1.2.2)) (ci := 15) hk56) rfl (leK rfl) hk1 hn1 (tg_SB_append  e_p55) (kxR (fun h_p55 => ?_))
      refine x_iload (pc := 150) (j := 5) (dK D_Law_plan_1 35 rfl) rfl ?_
      refine rfE h ?_
      clear h
      intro r57 e_r57 h
      rw [e_r57]
      refine gdE h ?_
      clear h
      intro hk59 h
      refine bnE h ?_
      clear h
      intro p58 e_p58 h
      obtain ⟨yp58, h9, e9⟩ := adE2 h
      clear h
      subst e9
      have h := h9
      clear h9
      have hk1 := Nat.le_trans (bd1 hb) hkt
      have hn1 := Nat.le_trans (bd2 hb) hnt
      replace hb := bdA hb
      refine x_callX (pc := 152) (As := [V a6]) (rest := []) (mc' := p58.2.1) (ms' := p58.2.2) (dK D_Law_plan_1 36 rfl) Q_Law_172 sx_SB_append2 (fitK rfl) (isK_at (Z := (p55.1.2.1, p55.1.2.2)) (ci := 15) hk59) rfl (leK rfl) hk1 hn1 (tg_SB_append2 ha6 e_p58) (kxR (fun h_p58 => ?_))
      refine x_ldcSw (own := "FlatPlanLaw") (text := " ;") (j := 17) rfl (dK D_Law_plan_1 37 rfl) (List.mem_of_getElem? (i := 17) rfl) ?_
      refine rfE h ?_
      clear h
      intro r60 e_r60 h
      rw [e_r60]
      refine gdE h ?_
      clear h
      intro hk62 h
      refine bnE h ?_
      clear h
      intro p61 e_p61 h
      obtain ⟨yp61, h9, e9⟩ := adE2 h
      clear h
      subst e9
      have h := h9
      clear h9
      have hk1 := Nat.le_trans (bd1 hb) hkt
      have hn1 := Nat.le_trans (bd2 hb) hnt
      replace hb := bdA hb
      refine x_callX (pc := 158) (As := [.ref (XB + 17)]) (rest := []) (mc' := p61.2.1) (ms' := p61.2.2) (dK D_Law_plan_1 38 rfl) Q_Law_168 sx_SB_append (fitK rfl) (isK_at (Z := (p58.1.2.1, p58.1.2.2)) (ci := 15) hk62) rfl (leK rfl) hk1 hn1 (tg_SB_append  e_p61) (kxR (fun h_p61 => ?_))
      refine rfE h ?_
      clear h
      intro r63 e_r63 h
      rw [e_r63]
      refine gdE h ?_
      clear h
      intro hk65 h
      refine bnE h ?_
      clear h
      intro p64 e_p64 h
      obtain ⟨yp64, h9, e9⟩ := adE2 h
      clear h
      subst e9
      have h := h9
      clear h9
      have hk1 := Nat.le_trans (bd1 hb) hkt
      have hn1 := Nat.le_trans (bd2 hb) hnt
      replace hb := bdA hb
      refine x_callX (pc := 161) (As := []) (rest := []) (mc' := p64.2.1) (ms' := p64.2.2) (dK D_Law_plan_1 39 rfl) Q_Law_175 sx_SB_toString (fitK rfl) (isK_at (Z := (p61.1.2.1, p61.1.2.2)) (ci := 15) hk65) rfl (leK rfl) hk1 hn1 (tg_SB_toString  e_p64) (kxR (fun h_p64 => ?_))
      refine x_astoreV (pc := 164) (ls2 := [(5, p64.1.1), (0, .ref c0), (1, .ref (XB + 200)), (2, V a2), (3, V a3), (6, V a6)]) h_p64 (dK D_Law_plan_1 40 rfl) (ltK rfl) rfl ?_
      refine nmE h ?_
      clear h
      intro v66 e_v66 h
      refine wx_iinc (pc := 166) (j := 5) (a := a6) (z := 1) (ls2 := [(6, V v66), (5, p64.1.1), (0, .ref c0), (1, .ref (XB + 200)), (2, V a2), (3, V a3)]) (dK D_Law_plan_1 41 rfl) rfl e_v66 (ltK rfl) (by simp [stI, List.filter, cato h_p64]) ?_
      refine x_goto (pc := 169) (tgt := 98) (dK D_Law_plan_1 42 rfl) rfl ?_
      refine x_weak (ls' := [(0, .ref c0), (1, .ref (XB + 200)), (2, V a2), (3, V a3), (5, p64.1.1), (6, V v66)]) (sbc 2 rfl (sbc 3 rfl (sbc 4 rfl (sbc 5 rfl (sbc 1 rfl (sbc 0 rfl sbn)))))) ?_
      replace h := ih _ _ h
      exact h _ _ hb h_p64 (Vn_in e_v66) hx
    · replace h := ifP h hc68
      refine x_goto (pc := 121) (tgt := 166) (dK D_Law_plan_1 22 rfl) rfl ?_
      refine nmE h ?_
      clear h
      intro v67 e_v67 h
      refine wx_iinc (pc := 166) (j := 5) (a := a6) (z := 1) (ls2 := [(6, V v67), (0, .ref c0), (1, .ref (XB + 200)), (2, V a2), (3, V a3), (5, c5)]) (dK D_Law_plan_1 41 rfl) rfl e_v67 (ltK rfl) (by simp [stI, List.filter, cato hc5]) ?_
      refine x_goto (pc := 169) (tgt := 98) (dK D_Law_plan_1 42 rfl) rfl ?_
      refine x_weak (ls' := [(0, .ref c0), (1, .ref (XB + 200)), (2, V a2), (3, V a3), (5, c5), (6, V v67)]) (sbc 1 rfl (sbc 2 rfl (sbc 3 rfl (sbc 4 rfl (sbc 5 rfl (sbc 0 rfl sbn)))))) ?_
      replace h := ih _ _ h
      exact h _ _ hb hc5 (Vn_in e_v67) hx
def jf2_Law_plan_266_175 (sc : SC) (c0 : Nat) (a2 : Int) (a3 : Int) (go : Value × Int × LZ → Option ((Value × LZ) × Nat × Nat)) (c5 : Value) (a6 : Int) (a7 : Int) (c8 : Nat) (st0 : Int) (ct1 : Nat) (S : St) (L : List PC) : Option ((Value × LZ) × Nat × Nat) := if st0 = 0 ∨ st0 = 1 then (bnO (pf L ct1 11 6 (V st0)) fun L88 => nm (wr (a7.tdiv 80)) fun v90 => nm (wr (v90.tmod 5)) fun v91 => nm (wr (v91.tmod 3)) fun v92 => bnO (pf L88 c8 11 2 (V v92)) fun L93 => nm (wr (a7.tdiv 400)) fun v94 => nm (wr (1 + (v94.tmod 300))) fun v95 => bnO (pf L93 c8 11 3 (V v95)) fun L96 => nm (wr (a7.tdiv 120000)) fun v97 => nm (wr (a7.tdiv 7)) fun v98 => nm (wr ((v97.tmod 3) * (v98.tmod 20))) fun v99 => bnO (pf L96 c8 11 4 (V v99)) fun L100 => bnO (gfV L100 c0 12 4) fun v101 => rfB v101 fun r102 => if isK L100 r102 13 = true then (bnO (gn_AL_add r102 (.ref c8) S L100) fun p103 => adC p103.2.1 p103.2.2 (if p103.1.2.2.length < 900000000 then adC 1 4 (nw p103.1.2.2 (15, dfl 15) fun r106 L107 => bnO (gn_SB_init r106 p103.1.2.1 L107) fun p109 => adC p109.2.1 p109.2.2 (rfB c5 fun r110 => if isK p109.1.2 r106 15 = true then (bnO (gn_SB_append r106 r110 p109.1.1 p109.1.2) fun p111 => adC p111.2.1 p111.2.2 (rfB p111.1.1 fun r113 => if isK p111.1.2.2 r113 15 = true then (bnO (gn_SB_append r113 (XB + 18) p111.1.2.1 p111.1.2.2) fun p114 => adC p114.2.1 p114.2.2 (bnO (gfI p114.1.2.2 c8 11 0) fun v116 => rfB p114.1.1 fun r117 => if isK p114.1.2.2 r117 15 = true then (bnO (gn_SB_append2 r117 v116 p114.1.2.1 p114.1.2.2) fun p118 => adC p118.2.1 p118.2.2 (rfB p118.1.1 fun r120 => if isK p118.1.2.2 r120 15 = true then (bnO (gn_SB_append r120 (XB + 14) p118.1.2.1 p118.1.2.2) fun p121 => adC p121.2.1 p121.2.2 (bnO (gfI p121.1.2.2 c8 11 1) fun v123 => rfB p121.1.1 fun r124 => if isK p121.1.2.2 r124 15 = true then (bnO (gn_SB_append2 r124 v123 p121.1.2.1 p121.1.2.2) fun p125 => adC p125.2.1 p125.2.2 (rfB p125.1.1 fun r127 => if isK p125.1.2.2 r127 15 = true then (bnO (gn_SB_append r127 (XB + 14) p125.1.2.1 p125.1.2.2) fun p128 => adC p128.2.1 p128.2.2 (bnO (gfI p128.1.2.2 c8 11 6) fun v130 => if v130 = 0 then (rfB p128.1.1 fun r131 => if isK p128.1.2.2 r131 15 = true then (bnO (gn_SB_append2 r131 0 p128.1.2.1 p128.1.2.2) fun p132 => adC p132.2.1 p132.2.2 (rfB p132.1.1 fun r134 => if isK p132.1.2.2 r134 15 = true then (bnO (gn_SB_append r134 (XB + 14) p132.1.2.1 p132.1.2.2) fun p135 => adC p135.2.1 p135.2.2 (bnO (gfI p135.1.2.2 c8 11 2) fun v137 => rfB p135.1.1 fun r138 => if isK p135.1.2.2 r138 15 = true then (bnO (gn_SB_append2 r138 v137 p135.1.2.1 p135.1.2.2) fun p139 => adC p139.2.1 p139.2.2 (rfB p139.1.1 fun r141 => if isK p139.1.2.2 r141 15 = true then (bnO (gn_SB_append r141 (XB + 14) p139.1.2.1 p139.1.2.2) fun p142 => adC p142.2.1 p142.2.2 (bnO (gfI p142.1.2.2 c8 11 3) fun v144 => rfB p142.1.1 fun r145 => if isK p142.1.2.2 r145 15 = true then (bnO (gn_SB_append2 r145 v144 p142.1.2.1 p142.1.2.2) fun p146 => adC p146.2.1 p146.2.2 (rfB p146.1.1 fun r148 => if isK p146.1.2.2 r148 15 = true then (bnO (gn_SB_append r148 (XB + 14) p146.1.2.1 p146.1.2.2) fun p149 => adC p149.2.1 p149.2.2 (bnO (gfI p149.1.2.2 c8 11 4) fun v151 => rfB p149.1.1 fun r152 => if isK p149.1.2.2 r152 15 = true then (bnO (gn_SB_append2 r152 v151 p149.1.2.1 p149.1.2.2) fun p153 => adC p153.2.1 p153.2.2 (rfB p153.1.1 fun r155 => if isK p153.1.2.2 r155 15 = true then (bnO (gn_SB_append r155 (XB + 15) p153.1.2.1 p153.1.2.2) fun p156 => adC p156.2.1 p156.2.2 (rfB p156.1.1 fun r158 => if isK p156.1.2.2 r158 15 = true then (bnO (gn_SB_toString r158 p156.1.2.1 p156.1.2.2) fun p159 => adC p159.2.1 p159.2.2 (nm (wr (a6 + 1)) fun v161 => go (p159.1.1, v161, (p159.1.2.1, p159.1.2.2)))) else none)) else none)) else none)) else none)) else none)) else none)) else none)) else none)) else none) else (rfB p128.1.1 fun r162 => if isK p128.1.2.2 r162 15 = true then (bnO (gn_SB_append2 r162 1 p128.1.2.1 p128.1.2.2) fun p163 => adC p163.2.1 p163.2.2 (rfB p163.1.1 fun r165 => if isK p163.1.2.2 r165 15 = true then (bnO (gn_SB_append r165 (XB + 14) p163.1.2.1 p163.1.2.2) fun p166 => adC p166.2.1 p166.2.2 (bnO (gfI p166.1.2.2 c8 11 2) fun v168 => rfB p166.1.1 fun r169 => if isK p166.1.2.2 r169 15 = true then (bnO (gn_SB_append2 r169 v168 p166.1.2.1 p166.1.2.2) fun p170 => adC p170.2.1 p170.2.2 (rfB p170.1.1 fun r172 => if isK p170.1.2.2 r172 15 = true then (bnO (gn_SB_append r172 (XB + 14) p170.1.2.1 p170.1.2.2) fun p173 => adC p173.2.1 p173.2.2 (bnO (gfI p173.1.2.2 c8 11 3) fun v175 => rfB p173.1.1 fun r176 => if isK p173.1.2.2 r176 15 = true then (bnO (gn_SB_append2 r176 v175 p173.1.2.1 p173.1.2.2) fun p177 => adC p177.2.1 p177.2.2 (rfB p177.1.1 fun r179 => if isK p177.1.2.2 r179 15 = true then (bnO (gn_SB_append r179 (XB + 14) p177.1.2.1 p177.1.2.2) fun p180 => adC p180.2.1 p180.2.2 (bnO (gfI p180.1.2.2 c8 11 4) fun v182 => rfB p180.1.1 fun r183 => if isK p180.1.2.2 r183 15 = true then (bnO (gn_SB_append2 r183 v182 p180.1.2.1 p180.1.2.2) fun p184 => adC p184.2.1 p184.2.2 (rfB p184.1.1 fun r186 => if isK p184.1.2.2 r186 15 = true then (bnO (gn_SB_append r186 (XB + 15) p184.1.2.1 p184.1.2.2) fun p187 => adC p187.2.1 p187.2.2 (rfB p187.1.1 fun r189 => if isK p187.1.2.2 r189 15 = true then (bnO (gn_SB_toString r189 p187.1.2.1 p187.1.2.2) fun p190 => adC p190.2.1 p190.2.2 (nm (wr (a6 + 1)) fun v192 => go (p190.1.1, v192, (p190.1.2.1, p190.1.2.2)))) else none)) else none)) else none)) else none)) else none)) else none)) else none)) else none)) else none))) else none)) else none)) else none)) else none)) else none)) else none)) else none)) else none) else none
theorem tj2_Law_plan_266_175 {sc : SC} {c0 : Nat} {a2 : Int} (ha2 : inR a2) {a3 : Int} (ha3 : inR a3) {K : Option Value → List PC → Prop} {mc ms kt nt : Nat} (hkt : kt ≤ mc) (hnt : nt ≤ ms) {go : Value × Int × LZ → Option ((Value × LZ) × Nat × Nat)} (ih : ∀ (a : Value × Int × LZ) (q : (Value × LZ) × Nat × Nat), go a = some q → ∀ k n, Bd k n kt nt q → (a.1 = .null ∨ ∃ b, a.1 = .ref b) → inR a.2.1 → ((q.1.1 = .null ∨ ∃ b, q.1.1 = .ref b) → GX sc M_Law_plan mc ms 453 [(0, .ref c0), (1, .ref (XB + 200)), (2, V a2), (3, V a3), (5, q.1.1)] [] (wz q.1.2) kt nt K) → GX sc M_Law_plan mc ms 175 [(0, .ref c0), (1, .ref (XB + 200)), (2, V a2), (3, V a3), (5, a.1), (6, V a.2.1)] [] (wz a.2.2) k n K) {c5 : Value} (hc5 : c5 = .null ∨ ∃ b, c5 = .ref b) {a6 : Int} (ha6 : inR a6) {a7 : Int} (ha7 : inR a7) {c8 : Nat} {st0 : Int} (hst0 : inR st0) {ct1 : Nat} {S : St} {L : List PC} {q : (Value × LZ) × Nat × Nat} (h : jf2_Law_plan_266_175 sc c0 a2 a3 go c5 a6 a7 c8 st0 ct1 S L = some q) {k n : Nat} (hb : Bd k n kt nt q) (hx : ((q.1.1 = .null ∨ ∃ b, q.1.1 = .ref b) → GX sc M_Law_plan mc ms 453 [(0, .ref c0), (1, .ref (XB + 200)), (2, V a2), (3, V a3), (5, q.1.1)] [] (wz q.1.2) kt nt K)) : GX sc M_Law_plan mc ms 266 [(0, .ref c0), (1, .ref (XB + 200)), (2, V a2), (3, V a3), (5, c5), (6, V a6), (7, V a7), (8, .ref c8)] [V st0, .ref ct1] (wz (S, L)) k n K := by
  unfold jf2_Law_plan_266_175 at h
  refine gdE h ?_
  clear h
  intro hz89 h
  refine bnE h ?_
  clear h
  intro L88 e_L88 h
  refine wx_put (Z := (S, L)) (pc := 266) (ci := 11) (f := 6) e_L88 (dK D_Law_plan_2 47 rfl) q_891 (ltK rfl) (ltK rfl) rfl (okBool hz89) ?_
  refine x_aload (pc := 269) (j := 7) (dK D_Law_plan_2 48 rfl) rfl ?_
  refine x_iload (pc := 271) (j := 6) (dK D_Law_plan_2 49 rfl) rfl ?_
  refine wx_bipush (pc := 273) (dK D_Law_plan_3 0 rfl) rfl ?_
  refine wx_idiv (pc := 275) (dK D_Law_plan_3 1 rfl) ha7 (inRk rfl) (by decide) ?_
  refine wx_iconst (pc := 276) (dK D_Law_plan_3 2 rfl) ?_
  refine nmE h ?_
  clear h
  intro v90 e_v90 h
  refine wsk (st' := [V 5, V v90, .ref c8]) (congrArg (fun z9 => [V 5, z9, .ref c8]) (Vn e_v90)) ?_
  refine wx_irem (pc := 277) (dK D_Law_plan_3 3 rfl) (Vn_in e_v90) (inRk rfl) (by decide) ?_
  refine wx_iconst (pc := 278) (dK D_Law_plan_3 4 rfl) ?_
  refine nmE h ?_
  clear h
  intro v91 e_v91 h
  refine wsk (st' := [V 3, V v91, .ref c8]) (congrArg (fun z9 => [V 3, z9, .ref c8]) (Vn e_v91)) ?_
  refine wx_irem (pc := 279) (dK D_Law_plan_3 5 rfl) (Vn_in e_v91) (inRk rfl) (by decide) ?_
  refine nmE h ?_
  clear h
  intro v92 e_v92 h
  refine wtop e_v92 ?_
  refine bnE h ?_
  clear h
  intro L93 e_L93 h
  refine wx_put (Z := (S, L88)) (pc := 280) (ci := 11) (f := 2) e_L93 (dK D_Law_plan_3 6 rfl) q_879 (ltK rfl) (ltK rfl) rfl okInt ?_
  refine x_aload (pc := 283) (j := 7) (dK D_Law_plan_3 7 rfl) rfl ?_
  refine wx_iconst (pc := 285) (dK D_Law_plan_3 8 rfl) ?_
  refine x_iload (pc := 286) (j := 6) (dK D_Law_plan_3 9 rfl) rfl ?_
  refine wx_sipush (pc := 288) (dK D_Law_plan_3 10 rfl) rfl ?_
  refine wx_idiv (pc := 291) (dK D_Law_plan_3 11 rfl) ha7 (inRk rfl) (by decide) ?_
  refine wx_sipush (pc := 292) (dK D_Law_plan_3 12 rfl) rfl ?_
  refine nmE h ?_
  clear h
  intro v94 e_v94 h
  refine wsk (st' := [V 300, V v94, V 1, .ref c8]) (congrArg (fun z9 => [V 300, z9, V 1, .ref c8]) (Vn e_v94)) ?_
  refine wx_irem (pc := 295) (dK D_Law_plan_3 13 rfl) (Vn_in e_v94) (inRk rfl) (by decide) ?_
  refine wx_iadd (pc := 296) (dK D_Law_plan_3 14 rfl) ?_
  refine nmE h ?_
  clear h
  intro v95 e_v95 h
  refine wtop e_v95 ?_
  refine bnE h ?_
  clear h
  intro L96 e_L96 h
  refine wx_put (Z := (S, L93)) (pc := 297) (ci := 11) (f := 3) e_L96 (dK D_Law_plan_3 15 rfl) q_882 (ltK rfl) (ltK rfl) rfl okInt ?_
  refine x_aload (pc := 300) (j := 7) (dK D_Law_plan_3 16 rfl) rfl ?_
  refine x_iload (pc := 302) (j := 6) (dK D_Law_plan_3 17 rfl) rfl ?_
  refine wx_ldcw (pc := 304) (y := 120000) (dK D_Law_plan_3 18 rfl) q_1887 rfl ?_
  refine wx_idiv (pc := 307) (dK D_Law_plan_3 19 rfl) ha7 (inRk rfl) (by decide) ?_
  refine wx_iconst (pc := 308) (dK D_Law_plan_3 20 rfl) ?_
  refine nmE h ?_
  clear h
  intro v97 e_v97 h
  refine wsk (st' := [V 3, V v97, .ref c8]) (congrArg (fun z9 => [V 3, z9, .ref c8]) (Vn e_v97)) ?_
  refine wx_irem (pc := 309) (dK D_Law_plan_3 21 rfl) (Vn_in e_v97) (inRk rfl) (by decide) ?_
  refine x_iload (pc := 310) (j := 6) (dK D_Law_plan_3 22 rfl) rfl ?_
  refine wx_bipush (pc := 312) (dK D_Law_plan_3 23 rfl) rfl ?_
  refine wx_idiv (pc := 314) (dK D_Law_plan_3 24 rfl) ha7 (inRk rfl) (by decide) ?_
  refine wx_bipush (pc := 315) (dK D_Law_plan_3 25 rfl) rfl ?_
  refine nmE h ?_
  clear h
  intro v98 e_v98 h
  refine wsk (st' := [V 20, V v98, V (v97.tmod 3), .ref c8]) (congrArg (fun z9 => [V 20, z9, V (v97.tmod 3), .ref c8]) (Vn e_v98)) ?_
  refine wx_irem (pc := 317) (dK D_Law_plan_3 26 rfl) (Vn_in e_v98) (inRk rfl) (by decide) ?_
  refine wx_imul (pc := 318) (dK D_Law_plan_3 27 rfl) ?_
  refine nmE h ?_
  clear h
  intro v99 e_v99 h
  refine wtop e_v99 ?_
  refine bnE h ?_
  clear h
  intro L100 e_L100 h
  refine wx_put (Z := (S, L96)) (pc := 319) (ci := 11) (f := 4) e_L100 (dK D_Law_plan_3 28 rfl) q_885 (ltK rfl) (ltK rfl) rfl okInt ?_
  refine x_aloadn (pc := 322) (i0 := 0) (j := 0) (dK D_Law_plan_3 29 rfl) rfl rfl ?_
  refine bnE h ?_
  clear h
  intro v101 e_v101 h
  refine wx_getV (pc := 323) (ci := 12) (f := 4) e_v101 (dK D_Law_plan_3 30 rfl) q_776 (ltK rfl) (ltK rfl) (fun hv101 => ?_)
  refine x_aload (pc := 326) (j := 7) (dK D_Law_plan_3 31 rfl) rfl ?_
  refine rfE h ?_
  clear h
  intro r102 e_r102 h
  rw [e_r102]
  refine gdE h ?_
  clear h
  intro hk104 h
  refine bnE h ?_
  clear h
  intro p103 e_p103 h
  obtain ⟨yp103, h9, e9⟩ := adE2 h
  clear h
  subst e9
  have h := h9
  clear h9
  have hk1 := Nat.le_trans (bd1 hb) hkt
  have hn1 := Nat.le_trans (bd2 hb) hnt
  replace hb := bdA hb
  refine x_callX (pc := 328) (As := [.ref c8]) (rest := []) (mc' := p103.2.1) (ms' := p103.2.2) (dK D_Law_plan_3 32 rfl) Q_Law_378 sx_AL_add (fitK rfl) (isK_at (Z := (S, L100)) (ci := 13) hk104) rfl (leK rfl) hk1 hn1 (tg_AL_add (.inr ⟨_, rfl⟩) e_p103) (kxB' ?_)
  refine x_pop (pc := 331) (dK D_Law_plan_3 33 rfl) rfl ?_
  refine gdE h ?_
  clear h
  intro hl105 h
  obtain ⟨y108, h9, e9⟩ := adE2 h
  clear h
  subst e9
  have h := h9
  clear h9
  refine nwE h ?_
  clear h
  intro r106 L107 e_r106 e_L107 h
  have hk1 := Nat.le_trans (bd1 hb) hkt
  have hn1 := Nat.le_trans (bd2 hb) hnt
  replace hb := bdA hb
  refine wn_new (Z := (p103.1.2.1, p103.1.2.2)) (pc := 332) (ci := 15) (N := 4) e_r106 e_L107 hl105 rfl (dK D_Law_plan_3 34 rfl) (ltK rfl) q_1275 q_1276 q_33 hk1 hn1 ?_
  refine x_dup (pc := 335) (dK D_Law_plan_3 35 rfl) rfl ?_
  refine bnE h ?_
  clear h
  intro p109 e_p109 h
  obtain ⟨yp109, h9, e9⟩ := adE2 h
  clear h
  subst e9
  have h := h9
  clear h9
  have hk1 := Nat.le_trans (bd1 hb) hkt
  have hn1 := Nat.le_trans (bd2 hb) hnt
  replace hb := bdA hb
  refine x_callI (pc := 336) (As := []) (rest := [.ref r106]) (mc' := p109.2.1) (ms' := p109.2.2) (dK D_Law_plan_3 36 rfl) Q_Law_165 (fitK rfl) rfl (leK rfl) hk1 hn1 (tg_SB_init  e_p109) (kxU ?_)
  refine x_aloadV (pc := 339) (j := 4) hc5 (dK D_Law_plan_3 37 rfl) rfl ?_
  refine rfE h ?_
  clear h
  intro r110 e_r110 h
  rw [e_r110]
  refine gdE h ?_
  clear h
  intro hk112 h
  refine bnE h ?_
  clear h
  intro p111 e_p111 h
  obtain ⟨yp111, h9, e9⟩ := adE2 h
  clear h
  subst e9
  have h := h9
  clear h9
  have hk1 := Nat.le_trans (bd1 hb) hkt
  have hn1 := Nat.le_trans (bd2 hb) hnt
  replace hb := bdA hb
  refine x_callX (pc := 341) (As := [.ref r110]) (rest := []) (mc' := p111.2.1) (ms' := p111.2.2) (dK D_Law_plan_3 38 rfl) Q_Law_168 sx_SB_append (fitK rfl) (isK_at (Z := (p109.1.1, p109.1.2)) (ci := 15) hk112) rfl (leK rfl) hk1 hn1 (tg_SB_append  e_p111) (kxR (fun h_p111 => ?_))
  refine x_ldcSw (own := "FlatPlanLaw") (text := "ad ") (j := 18) rfl (dK D_Law_plan_3 39 rfl) (List.mem_of_getElem? (i := 18) rfl) ?_
  refine rfE h ?_
  clear h
  intro r113 e_r113 h
  rw [e_r113]
  refine gdE h ?_
  clear h
  intro hk115 h
  refine bnE h ?_
  clear h
  intro p114 e_p114 h
  obtain ⟨yp114, h9, e9⟩ := adE2 h
  clear h
  subst e9
  have h := h9
  clear h9
  have hk1 := Nat.le_trans (bd1 hb) hkt
  have hn1 := Nat.le_trans (bd2 hb) hnt
  replace hb := bdA hb
  refine x_callX (pc := 347) (As := [.ref (XB + 18)]) (rest := []) (mc' := p114.2.1) (ms' := p114.2.2) (dK D_Law_plan_3 40 rfl) Q_Law_168 sx_SB_append (fitK rfl) (isK_at (Z := (p111.1.2.1, p111.1.2.2)) (ci := 15) hk115) rfl (leK rfl) hk1 hn1 (tg_SB_append  e_p114) (kxR (fun h_p114 => ?_))
  refine x_aload (pc := 350) (j := 7) (dK D_Law_plan_3 41 rfl) rfl ?_
  refine bnE h ?_
  clear h
  intro v116 e_v116 h
  refine wx_getI (pc := 352) (ci := 11) (f := 0) e_v116 (dK D_Law_plan_3 42 rfl) q_874 (ltK rfl) (ltK rfl) ?_
  refine rfE h ?_
  clear h
  intro r117 e_r117 h
  rw [e_r117]
  refine gdE h ?_
  clear h
  intro hk119 h
  refine bnE h ?_
  clear h
  intro p118 e_p118 h
  obtain ⟨yp118, h9, e9⟩ := adE2 h
  clear h
  subst e9
  have h := h9
  clear h9
  have hk1 := Nat.le_trans (bd1 hb) hkt
  have hn1 := Nat.le_trans (bd2 hb) hnt
  replace hb := bdA hb
  refine x_callX (pc := 355) (As := [V v116]) (rest := []) (mc' := p118.2.1) (ms' := p118.2.2) (dK D_Law_plan_3 43 rfl) Q_Law_172 sx_SB_append2 (fitK rfl) (isK_at (Z := (p114.1.2.1, p114.1.2.2)) (ci := 15) hk119) rfl (leK rfl) hk1 hn1 (tg_SB_append2 (vI_at e_v116).2 e_p118) (kxR (fun h_p118 => ?_))
  refine x_ldcSw (own := "FlatPlanLaw") (text := " ") (j := 14) rfl (dK D_Law_plan_3 44 rfl) (List.mem_of_getElem? (i := 14) rfl) ?_
  refine rfE h ?_
  clear h
  intro r120 e_r120 h
  rw [e_r120]
  refine gdE h ?_
  clear h
  intro hk122 h
  refine bnE h ?_
  clear h
  intro p121 e_p121 h
  obtain ⟨yp121, h9, e9⟩ := adE2 h
  clear h
  subst e9
  have h := h9
  clear h9
  have hk1 := Nat.le_trans (bd1 hb) hkt
  have hn1 := Nat.le_trans (bd2 hb) hnt
  replace hb := bdA hb
  refine x_callX (pc := 361) (As := [.ref (XB + 14)]) (rest := []) (mc' := p121.2.1) (ms' := p121.2.2) (dK D_Law_plan_3 45 rfl) Q_Law_168 sx_SB_append (fitK rfl) (isK_at (Z := (p118.1.2.1, p118.1.2.2)) (ci := 15) hk122) rfl (leK rfl) hk1 hn1 (tg_SB_append  e_p121) (kxR (fun h_p121 => ?_))
  refine x_aload (pc := 364) (j := 7) (dK D_Law_plan_3 46 rfl) rfl ?_
  refine bnE h ?_
  clear h
  intro v123 e_v123 h
  refine wx_getI (pc := 366) (ci := 11) (f := 1) e_v123 (dK D_Law_plan_3 47 rfl) q_876 (ltK rfl) (ltK rfl) ?_
  refine rfE h ?_
  clear h
  intro r124 e_r124 h
  rw [e_r124]
  refine gdE h ?_
  clear h
  intro hk126 h
  refine bnE h ?_
  clear h
  intro p125 e_p125 h
  obtain ⟨yp125, h9, e9⟩ := adE2 h
  clear h
  subst e9
  have h := h9
  clear h9
  have hk1 := Nat.le_trans (bd1 hb) hkt
  have hn1 := Nat.le_trans (bd2 hb) hnt
  replace hb := bdA hb
  refine x_callX (pc := 369) (As := [V v123]) (rest := []) (mc' := p125.2.1) (ms' := p125.2.2) (dK D_Law_plan_3 48 rfl) Q_Law_172 sx_SB_append2 (fitK rfl) (isK_at (Z := (p121.1.2.1, p121.1.2.2)) (ci := 15) hk126) rfl (leK rfl) hk1 hn1 (tg_SB_append2 (vI_at e_v123).2 e_p125) (kxR (fun h_p125 => ?_))
  refine x_ldcSw (own := "FlatPlanLaw") (text := " ") (j := 14) rfl (dK D_Law_plan_3 49 rfl) (List.mem_of_getElem? (i := 14) rfl) ?_
  refine rfE h ?_
  clear h
  intro r127 e_r127 h
  rw [e_r127]
  refine gdE h ?_
  clear h
  intro hk129 h
  refine bnE h ?_
  clear h
  intro p128 e_p128 h
  obtain ⟨yp128, h9, e9⟩ := adE2 h
  clear h
  subst e9
  have h := h9
  clear h9
  have hk1 := Nat.le_trans (bd1 hb) hkt
  have hn1 := Nat.le_trans (bd2 hb) hnt
  replace hb := bdA hb
  refine x_callX (pc := 375) (As := [.ref (XB + 14)]) (rest := []) (mc' := p128.2.1) (ms' := p128.2.2) (dK D_Law_plan_4 0 rfl) Q_Law_168 sx_SB_append (fitK rfl) (isK_at (Z := (p125.1.2.1, p125.1.2.2)) (ci := 15) hk129) rfl (leK rfl) hk1 hn1 (tg_SB_append  e_p128) (kxR (fun h_p128 => ?_))
  refine x_aload (pc := 378) (j := 7) (dK D_Law_plan_4 1 rfl) rfl ?_
  refine bnE h ?_
  clear h
  intro v130 e_v130 h
  refine wx_getI (pc := 380) (ci := 11) (f := 6) e_v130 (dK D_Law_plan_4 2 rfl) q_891 (ltK rfl) (ltK rfl) ?_
  refine wx_if_eq (pc := 383) (t := 390) (dK D_Law_plan_4 3 rfl) rfl (vI_at e_v130).2 (fun hc193 => ?_) (fun hc193 => ?_)
  · replace h := ifP h hc193
    refine wx_iconst (pc := 390) (dK D_Law_plan_4 6 rfl) ?_
    refine rfE h ?_
    clear h
    intro r131 e_r131 h
    rw [e_r131]
    refine gdE h ?_
    clear h
    intro hk133 h
    refine bnE h ?_
    clear h
    intro p132 e_p132 h
    obtain ⟨yp132, h9, e9⟩ := adE2 h
    clear h
    subst e9
    have h := h9
    clear h9
    have hk1 := Nat.le_trans (bd1 hb) hkt
    have hn1 := Nat.le_trans (bd2 hb) hnt
    replace hb := bdA hb
    refine x_callX (pc := 391) (As := [V 0]) (rest := []) (mc' := p132.2.1) (ms' := p132.2.2) (dK D_Law_plan_4 7 rfl) Q_Law_172 sx_SB_append2 (fitK rfl) (isK_at (Z := (p128.1.2.1, p128.1.2.2)) (ci := 15) hk133) rfl (leK rfl) hk1 hn1 (tg_SB_append2 (inRk rfl) e_p132) (kxR (fun h_p132 => ?_))
    refine x_ldcSw (own := "FlatPlanLaw") (text := " ") (j := 14) rfl (dK D_Law_plan_4 8 rfl) (List.mem_of_getElem? (i := 14) rfl) ?_
    refine rfE h ?_
    clear h
    intro r134 e_r134 h
    rw [e_r134]
    refine gdE h ?_
    clear h
    intro hk136 h
    refine bnE h ?_
    clear h
    intro p135 e_p135 h
    obtain ⟨yp135, h9, e9⟩ := adE2 h
    clear h
    subst e9
    have h := h9
    clear h9
    have hk1 := Nat.le_trans (bd1 hb) hkt
    have hn1 := Nat.le_trans (bd2 hb) hnt
    replace hb := bdA hb
    refine x_callX (pc := 397) (As := [.ref (XB + 14)]) (rest := []) (mc' := p135.2.1) (ms' := p135.2.2) (dK D_Law_plan_4 9 rfl) Q_Law_168 sx_SB_append (fitK rfl) (isK_at (Z := (p132.1.2.1, p132.1.2.2)) (ci := 15) hk136) rfl (leK rfl) hk1 hn1 (tg_SB_append  e_p135) (kxR (fun h_p135 => ?_))
    refine x_aload (pc := 400) (j := 7) (dK D_Law_plan_4 10 rfl) rfl ?_
    refine bnE h ?_
    clear h
    intro v137 e_v137 h
    refine wx_getI (pc := 402) (ci := 11) (f := 2) e_v137 (dK D_Law_plan_4 11 rfl) q_879 (ltK rfl) (ltK rfl) ?_
    refine rfE h ?_
    clear h
    intro r138 e_r138 h
    rw [e_r138]
    refine gdE h ?_
    clear h
    intro hk140 h
    refine bnE h ?_
    clear h
    intro p139 e_p139 h
    obtain ⟨yp139, h9, e9⟩ := adE2 h
    clear h
    subst e9
    have h := h9
    clear h9
    have hk1 := Nat.le_trans (bd1 hb) hkt
    have hn1 := Nat.le_trans (bd2 hb) hnt
    replace hb := bdA hb
    refine x_callX (pc := 405) (As := [V v137]) (rest := []) (mc' := p139.2.1) (ms' := p139.2.2) (dK D_Law_plan_4 12 rfl) Q_Law_172 sx_SB_append2 (fitK rfl) (isK_at (Z := (p135.1.2.1, p135.1.2.2)) (ci := 15) hk140) rfl (leK rfl) hk1 hn1 (tg_SB_append2 (vI_at e_v137).2 e_p139) (kxR (fun h_p139 => ?_))
    refine x_ldcSw (own := "FlatPlanLaw") (text := " ") (j := 14) rfl (dK D_Law_plan_4 13 rfl) (List.mem_of_getElem? (i := 14) rfl) ?_
    refine rfE h ?_
    clear h
    intro r141 e_r141 h
    rw [e_r141]
    refine gdE h ?_
    clear h
    intro hk143 h
    refine bnE h ?_
    clear h
    intro p142 e_p142 h
    obtain ⟨yp142, h9, e9⟩ := adE2 h
    clear h
    subst e9
    have h := h9
    clear h9
    have hk1 := Nat.le_trans (bd1 hb) hkt
    have hn1 := Nat.le_trans (bd2 hb) hnt
    replace hb := bdA hb
    refine x_callX (pc := 411) (As := [.ref (XB + 14)]) (rest := []) (mc' := p142.2.1) (ms' := p142.2.2) (dK D_Law_plan_4 14 rfl) Q_Law_168 sx_SB_append (fitK rfl) (isK_at (Z := (p139.1.2.1, p139.1.2.2)) (ci := 15) hk143) rfl (leK rfl) hk1 hn1 (tg_SB_append  e_p142) (kxR (fun h_p142 => ?_))
    refine x_aload (pc := 414) (j := 7) (dK D_Law_plan_4 15 rfl) rfl ?_
    refine bnE h ?_
    clear h
    intro v144 e_v144 h
    refine wx_getI (pc := 416) (ci := 11) (f := 3) e_v144 (dK D_Law_plan_4 16 rfl) q_882 (ltK rfl) (ltK rfl) ?_
    refine rfE h ?_
    clear h
    intro r145 e_r145 h
    rw [e_r145]
    refine gdE h ?_
    clear h
    intro hk147 h
    refine bnE h ?_
    clear h
    intro p146 e_p146 h
    obtain ⟨yp146, h9, e9⟩ := adE2 h
    clear h
    subst e9
    have h := h9
    clear h9
    have hk1 := Nat.le_trans (bd1 hb) hkt
    have hn1 := Nat.le_trans (bd2 hb) hnt
    replace hb := bdA hb
    refine x_callX (pc := 419) (As := [V v144]) (rest := []) (mc' := p146.2.1) (ms' := p146.2.2) (dK D_Law_plan_4 17 rfl) Q_Law_172 sx_SB_append2 (fitK rfl) (isK_at (Z := (p142.1.2.1, p142.1.2.2)) (ci := 15) hk147) rfl (leK rfl) hk1 hn1 (tg_SB_append2 (vI_at e_v144).2 e_p146) (kxR (fun h_p146 => ?_))
    refine x_ldcSw (own := "FlatPlanLaw") (text := " ") (j := 14) rfl (dK D_Law_plan_4 18 rfl) (List.mem_of_getElem? (i := 14) rfl) ?_
    refine rfE h ?_
    clear h
    intro r148 e_r148 h
    rw [e_r148]
    refine gdE h ?_
    clear h
    intro hk150 h
    refine bnE h ?_
    clear h
    intro p149 e_p149 h
    obtain ⟨yp149, h9, e9⟩ := adE2 h
    clear h
    subst e9
    have h := h9
    clear h9
    have hk1 := Nat.le_trans (bd1 hb) hkt
    have hn1 := Nat.le_trans (bd2 hb) hnt
    replace hb := bdA hb
    refine x_callX (pc := 425) (As := [.ref (XB + 14)]) (rest := []) (mc' := p149.2.1) (ms' := p149.2.2) (dK D_Law_plan_4 19 rfl) Q_Law_168 sx_SB_append (fitK rfl) (isK_at (Z := (p146.1.2.1, p146.1.2.2)) (ci := 15) hk150) rfl (leK rfl) hk1 hn1 (tg_SB_append  e_p149) (kxR (fun h_p149 => ?_))
    refine x_aload (pc := 428) (j := 7) (dK D_Law_plan_4 20 rfl) rfl ?_
    refine bnE h ?_
    clear h
    intro v151 e_v151 h
    refine wx_getI (pc := 430) (ci := 11) (f := 4) e_v151 (dK D_Law_plan_4 21 rfl) q_885 (ltK rfl) (ltK rfl) ?_
    refine rfE h ?_
    clear h
    intro r152 e_r152 h
    rw [e_r152]
    refine gdE h ?_
    clear h
    intro hk154 h
    refine bnE h ?_
    clear h
    intro p153 e_p153 h
    obtain ⟨yp153, h9, e9⟩ := adE2 h
    clear h
    subst e9
    have h := h9
    clear h9
    have hk1 := Nat.le_trans (bd1 hb) hkt
    have hn1 := Nat.le_trans (bd2 hb) hnt
    replace hb := bdA hb
    refine x_callX (pc := 433) (As := [V v151]) (rest := []) (mc' := p153.2.1) (ms' := p153.2.2) (dK D_Law_plan_4 22 rfl) Q_Law_172 sx_SB_append2 (fitK rfl) (isK_at (Z := (p149.1.2.1, p149.1.2.2)) (ci := 15) hk154) rfl (leK rfl) hk1 hn1 (tg_SB_append2 (vI_at e_v151).2 e_p153) (kxR (fun h_p153 => ?_))
    refine x_ldcSw (own := "FlatPlanLaw") (text := ";") (j := 15) rfl (dK D_Law_plan_4 23 rfl) (List.mem_of_getElem? (i := 15) rfl) ?_
    refine rfE h ?_
    clear h
    intro r155 e_r155 h
    rw [e_r155]
    refine gdE h ?_
    clear h
    intro hk157 h
    refine bnE h ?_
    clear h
    intro p156 e_p156 h
    obtain ⟨yp156, h9, e9⟩ := adE2 h
    clear h
    subst e9
    have h := h9
    clear h9
    have hk1 := Nat.le_trans (bd1 hb) hkt
    have hn1 := Nat.le_trans (bd2 hb) hnt
    replace hb := bdA hb
    refine x_callX (pc := 439) (As := [.ref (XB + 15)]) (rest := []) (mc' := p156.2.1) (ms' := p156.2.2) (dK D_Law_plan_4 24 rfl) Q_Law_168 sx_SB_append (fitK rfl) (isK_at (Z := (p153.1.2.1, p153.1.2.2)) (ci := 15) hk157) rfl (leK rfl) hk1 hn1 (tg_SB_append  e_p156) (kxR (fun h_p156 => ?_))
    refine rfE h ?_
    clear h
    intro r158 e_r158 h
    rw [e_r158]
    refine gdE h ?_
    clear h
    intro hk160 h
    refine bnE h ?_
    clear h
    intro p159 e_p159 h
    obtain ⟨yp159, h9, e9⟩ := adE2 h
    clear h
    subst e9
    have h := h9
    clear h9
    have hk1 := Nat.le_trans (bd1 hb) hkt
    have hn1 := Nat.le_trans (bd2 hb) hnt
    replace hb := bdA hb
    refine x_callX (pc := 442) (As := []) (rest := []) (mc' := p159.2.1) (ms' := p159.2.2) (dK D_Law_plan_4 25 rfl) Q_Law_175 sx_SB_toString (fitK rfl) (isK_at (Z := (p156.1.2.1, p156.1.2.2)) (ci := 15) hk160) rfl (leK rfl) hk1 hn1 (tg_SB_toString  e_p159) (kxR (fun h_p159 => ?_))
    refine x_astoreV (pc := 445) (ls2 := [(5, p159.1.1), (0, .ref c0), (1, .ref (XB + 200)), (2, V a2), (3, V a3), (6, V a6), (7, V a7), (8, .ref c8)]) h_p159 (dK D_Law_plan_4 26 rfl) (ltK rfl) rfl ?_
    refine nmE h ?_
    clear h
    intro v161 e_v161 h
    refine wx_iinc (pc := 447) (j := 5) (a := a6) (z := 1) (ls2 := [(6, V v161), (5, p159.1.1), (0, .ref c0), (1, .ref (XB + 200)), (2, V a2), (3, V a3), (7, V a7), (8, .ref c8)]) (dK D_Law_plan_4 27 rfl) rfl e_v161 (ltK rfl) (by simp [stI, List.filter, cato h_p159]) ?_
    refine x_goto (pc := 450) (tgt := 175) (dK D_Law_plan_4 28 rfl) rfl ?_
    refine x_weak (ls' := [(0, .ref c0), (1, .ref (XB + 200)), (2, V a2), (3, V a3), (5, p159.1.1), (6, V v161)]) (sbc 2 rfl (sbc 3 rfl (sbc 4 rfl (sbc 5 rfl (sbc 1 rfl (sbc 0 rfl sbn)))))) ?_
    replace h := ih _ _ h
    exact h _ _ hb h_p159 (Vn_in e_v161) hx
  · replace h := ifN h hc193
    refine wx_iconst (pc := 386) (dK D_Law_plan_4 4 rfl) ?_
    refine x_goto (pc := 387) (tgt := 391) (dK D_Law_plan_4 5 rfl) rfl ?_
    refine rfE h ?_
    clear h
    intro r162 e_r162 h
    rw [e_r162]
    refine gdE h ?_
    clear h
    intro hk164 h
    refine bnE h ?_
    clear h
    intro p163 e_p163 h
    obtain ⟨yp163, h9, e9⟩ := adE2 h
    clear h
    subst e9
    have h := h9
    clear h9
    have hk1 := Nat.le_trans (bd1 hb) hkt
    have hn1 := Nat.le_trans (bd2 hb) hnt
    replace hb := bdA hb
    refine x_callX (pc := 391) (As := [V 1]) (rest := []) (mc' := p163.2.1) (ms' := p163.2.2) (dK D_Law_plan_4 7 rfl) Q_Law_172 sx_SB_append2 (fitK rfl) (isK_at (Z := (p128.1.2.1, p128.1.2.2)) (ci := 15) hk164) rfl (leK rfl) hk1 hn1 (tg_SB_append2 (inRk rfl) e_p163) (kxR (fun h_p163 => ?_))
    refine x_ldcSw (own := "FlatPlanLaw") (text := " ") (j := 14) rfl (dK D_Law_plan_4 8 rfl) (List.mem_of_getElem? (i := 14) rfl) ?_
    refine rfE h ?_
    clear h
    intro r165 e_r165 h
    rw [e_r165]
    refine gdE h ?_
    clear h
    intro hk167 h
    refine bnE h ?_
    clear h
    intro p166 e_p166 h
    obtain ⟨yp166, h9, e9⟩ := adE2 h
    clear h
    subst e9
    have h := h9
    clear h9
    have hk1 := Nat.le_trans (bd1 hb) hkt
    have hn1 := Nat.le_trans (bd2 hb) hnt
    replace hb := bdA hb
    refine x_callX (pc := 397) (As := [.ref (XB + 14)]) (rest := []) (mc' := p166.2.1) (ms' := p166.2.2) (dK D_Law_plan_4 9 rfl) Q_Law_168 sx_SB_append (fitK rfl) (isK_at (Z := (p163.1.2.1, p163.1.2.2)) (ci := 15) hk167) rfl (leK rfl) hk1 hn1 (tg_SB_append  e_p166) (kxR (fun h_p166 => ?_))
    refine x_aload (pc := 400) (j := 7) (dK D_Law_plan_4 10 rfl) rfl ?_
    refine bnE h ?_
    clear h
    intro v168 e_v168 h
    refine wx_getI (pc := 402) (ci := 11) (f := 2) e_v168 (dK D_Law_plan_4 11 rfl) q_879 (ltK rfl) (ltK rfl) ?_
    refine rfE h ?_
    clear h
    intro r169 e_r169 h
    rw [e_r169]
    refine gdE h ?_
    clear h
    intro hk171 h
    refine bnE h ?_
    clear h
    intro p170 e_p170 h
    obtain ⟨yp170, h9, e9⟩ := adE2 h
    clear h
    subst e9
    have h := h9
    clear h9
    have hk1 := Nat.le_trans (bd1 hb) hkt
    have hn1 := Nat.le_trans (bd2 hb) hnt
    replace hb := bdA hb
    refine x_callX (pc := 405) (As := [V v168]) (rest := []) (mc' := p170.2.1) (ms' := p170.2.2) (dK D_Law_plan_4 12 rfl) Q_Law_172 sx_SB_append2 (fitK rfl) (isK_at (Z := (p166.1.2.1, p166.1.2.2)) (ci := 15) hk171) rfl (leK rfl) hk1 hn1 (tg_SB_append2 (vI_at e_v168).2 e_p170) (kxR (fun h_p170 => ?_))
    refine x_ldcSw (own := "FlatPlanLaw") (text := " ") (j := 14) rfl (dK D_Law_plan_4 13 rfl) (List.mem_of_getElem? (i := 14) rfl) ?_
    refine rfE h ?_
    clear h
    intro r172 e_r172 h
    rw [e_r172]
    refine gdE h ?_
    clear h
    intro hk174 h
    refine bnE h ?_
    clear h
    intro p173 e_p173 h
    obtain ⟨yp173, h9, e9⟩ := adE2 h
    clear h
    subst e9
    have h := h9
    clear h9
    have hk1 := Nat.le_trans (bd1 hb) hkt
    have hn1 := Nat.le_trans (bd2 hb) hnt
    replace hb := bdA hb
    refine x_callX (pc := 411) (As := [.ref (XB + 14)]) (rest := []) (mc' := p173.2.1) (ms' := p173.2.2) (dK D_Law_plan_4 14 rfl) Q_Law_168 sx_SB_append (fitK rfl) (isK_at (Z := (p170.1.2.1, p170.1.2.2)) (ci := 15) hk174) rfl (leK rfl) hk1 hn1 (tg_SB_append  e_p173) (kxR (fun h_p173 => ?_))
    refine x_aload (pc := 414) (j := 7) (dK D_Law_plan_4 15 rfl) rfl ?_
    refine bnE h ?_
    clear h
    intro v175 e_v175 h
    refine wx_getI (pc := 416) (ci := 11) (f := 3) e_v175 (dK D_Law_plan_4 16 rfl) q_882 (ltK rfl) (ltK rfl) ?_
    refine rfE h ?_
    clear h
    intro r176 e_r176 h
    rw [e_r176]
    refine gdE h ?_
    clear h
    intro hk178 h
    refine bnE h ?_
    clear h
    intro p177 e_p177 h
    obtain ⟨yp177, h9, e9⟩ := adE2 h
    clear h
    subst e9
    have h := h9
    clear h9
    have hk1 := Nat.le_trans (bd1 hb) hkt
    have hn1 := Nat.le_trans (bd2 hb) hnt
    replace hb := bdA hb
    refine x_callX (pc := 419) (As := [V v175]) (rest := []) (mc' := p177.2.1) (ms' := p177.2.2) (dK D_Law_plan_4 17 rfl) Q_Law_172 sx_SB_append2 (fitK rfl) (isK_at (Z := (p173.1.2.1, p173.1.2.2)) (ci := 15) hk178) rfl (leK rfl) hk1 hn1 (tg_SB_append2 (vI_at e_v175).2 e_p177) (kxR (fun h_p177 => ?_))
    refine x_ldcSw (own := "FlatPlanLaw") (text := " ") (j := 14) rfl (dK D_Law_plan_4 18 rfl) (List.mem_of_getElem? (i := 14) rfl) ?_
    refine rfE h ?_
    clear h
    intro r179 e_r179 h
    rw [e_r179]
    refine gdE h ?_
    clear h
    intro hk181 h
    refine bnE h ?_
    clear h
    intro p180 e_p180 h
    obtain ⟨yp180, h9, e9⟩ := adE2 h
    clear h
    subst e9
    have h := h9
    clear h9
    have hk1 := Nat.le_trans (bd1 hb) hkt
    have hn1 := Nat.le_trans (bd2 hb) hnt
    replace hb := bdA hb
    refine x_callX (pc := 425) (As := [.ref (XB + 14)]) (rest := []) (mc' := p180.2.1) (ms' := p180.2.2) (dK D_Law_plan_4 19 rfl) Q_Law_168 sx_SB_append (fitK rfl) (isK_at (Z := (p177.1.2.1, p177.1.2.2)) (ci := 15) hk181) rfl (leK rfl) hk1 hn1 (tg_SB_append  e_p180) (kxR (fun h_p180 => ?_))
    refine x_aload (pc := 428) (j := 7) (dK D_Law_plan_4 20 rfl) rfl ?_
    refine bnE h ?_
    clear h
    intro v182 e_v182 h
    refine wx_getI (pc := 430) (ci := 11) (f := 4) e_v182 (dK D_Law_plan_4 21 rfl) q_885 (ltK rfl) (ltK rfl) ?_
    refine rfE h ?_
    clear h
    intro r183 e_r183 h
    rw [e_r183]
    refine gdE h ?_
    clear h
    intro hk185 h
    refine bnE h ?_
    clear h
    intro p184 e_p184 h
    obtain ⟨yp184, h9, e9⟩ := adE2 h
    clear h
    subst e9
    have h := h9
    clear h9
    have hk1 := Nat.le_trans (bd1 hb) hkt
    have hn1 := Nat.le_trans (bd2 hb) hnt
    replace hb := bdA hb
    refine x_callX (pc := 433) (As := [V v182]) (rest := []) (mc' := p184.2.1) (ms' := p184.2.2) (dK D_Law_plan_4 22 rfl) Q_Law_172 sx_SB_append2 (fitK rfl) (isK_at (Z := (p180.1.2.1, p180.1.2.2)) (ci := 15) hk185) rfl (leK rfl) hk1 hn1 (tg_SB_append2 (vI_at e_v182).2 e_p184) (kxR (fun h_p184 => ?_))
    refine x_ldcSw (own := "FlatPlanLaw") (text := ";") (j := 15) rfl (dK D_Law_plan_4 23 rfl) (List.mem_of_getElem? (i := 15) rfl) ?_
    refine rfE h ?_
    clear h
    intro r186 e_r186 h
    rw [e_r186]
    refine gdE h ?_
    clear h
    intro hk188 h
    refine bnE h ?_
    clear h
    intro p187 e_p187 h
    obtain ⟨yp187, h9, e9⟩ := adE2 h
    clear h
    subst e9
    have h := h9
    clear h9
    have hk1 := Nat.le_trans (bd1 hb) hkt
    have hn1 := Nat.le_trans (bd2 hb) hnt
    replace hb := bdA hb
    refine x_callX (pc := 439) (As := [.ref (XB + 15)]) (rest := []) (mc' := p187.2.1) (ms' := p187.2.2) (dK D_Law_plan_4 24 rfl) Q_Law_168 sx_SB_append (fitK rfl) (isK_at (Z := (p184.1.2.1, p184.1.2.2)) (ci := 15) hk188) rfl (leK rfl) hk1 hn1 (tg_SB_append  e_p187) (kxR (fun h_p187 => ?_))
    refine rfE h ?_
    clear h
    intro r189 e_r189 h
    rw [e_r189]
    refine gdE h ?_
    clear h
    intro hk191 h
    refine bnE h ?_
    clear h
    intro p190 e_p190 h
    obtain ⟨yp190, h9, e9⟩ := adE2 h
    clear h
    subst e9
    have h := h9
    clear h9
    have hk1 := Nat.le_trans (bd1 hb) hkt
    have hn1 := Nat.le_trans (bd2 hb) hnt
    replace hb := bdA hb
    refine x_callX (pc := 442) (As := []) (rest := []) (mc' := p190.2.1) (ms' := p190.2.2) (dK D_Law_plan_4 25 rfl) Q_Law_175 sx_SB_toString (fitK rfl) (isK_at (Z := (p187.1.2.1, p187.1.2.2)) (ci := 15) hk191) rfl (leK rfl) hk1 hn1 (tg_SB_toString  e_p190) (kxR (fun h_p190 => ?_))
    refine x_astoreV (pc := 445) (ls2 := [(5, p190.1.1), (0, .ref c0), (1, .ref (XB + 200)), (2, V a2), (3, V a3), (6, V a6), (7, V a7), (8, .ref c8)]) h_p190 (dK D_Law_plan_4 26 rfl) (ltK rfl) rfl ?_
    refine nmE h ?_
    clear h
    intro v192 e_v192 h
    refine wx_iinc (pc := 447) (j := 5) (a := a6) (z := 1) (ls2 := [(6, V v192), (5, p190.1.1), (0, .ref c0), (1, .ref (XB + 200)), (2, V a2), (3, V a3), (7, V a7), (8, .ref c8)]) (dK D_Law_plan_4 27 rfl) rfl e_v192 (ltK rfl) (by simp [stI, List.filter, cato h_p190]) ?_
    refine x_goto (pc := 450) (tgt := 175) (dK D_Law_plan_4 28 rfl) rfl ?_
    refine x_weak (ls' := [(0, .ref c0), (1, .ref (XB + 200)), (2, V a2), (3, V a3), (5, p190.1.1), (6, V v192)]) (sbc 2 rfl (sbc 3 rfl (sbc 4 rfl (sbc 5 rfl (sbc 1 rfl (sbc 0 rfl sbn)))))) ?_
    replace h := ih _ _ h
    exact h _ _ hb h_p190 (Vn_in e_v192) hx
def jf2_Law_plan_235_175 (sc : SC) (c0 : Nat) (a2 : Int) (a3 : Int) (go : Value × Int × LZ → Option ((Value × LZ) × Nat × Nat)) (c5 : Value) (a6 : Int) (a7 : Int) (c8 : Nat) (st0 : Int) (ct1 : Nat) (S : St) (L : List PC) : Option ((Value × LZ) × Nat × Nat) := bnO (pf L ct1 11 0 (V st0)) fun L82 => nm (wr (a7.tdiv 4)) fun v83 => nm (wr (v83.tmod 5)) fun v84 => bnO (pf L82 c8 11 1 (V v84)) fun L85 => nm (wr (a7.tdiv 20)) fun v86 => nm (wr (v86.tmod 4)) fun v87 => if v87 = 0 then (jf2_Law_plan_266_175 sc c0 a2 a3 go c5 a6 a7 c8 1 c8 S L85) else (jf2_Law_plan_266_175 sc c0 a2 a3 go c5 a6 a7 c8 0 c8 S L85)
theorem tj2_Law_plan_235_175 {sc : SC} {c0 : Nat} {a2 : Int} (ha2 : inR a2) {a3 : Int} (ha3 : inR a3) {K : Option Value → List PC → Prop} {mc ms kt nt : Nat} (hkt : kt ≤ mc) (hnt : nt ≤ ms) {go : Value × Int × LZ → Option ((Value × LZ) × Nat × Nat)} (ih : ∀ (a : Value × Int × LZ) (q : (Value × LZ) × Nat × Nat), go a = some q → ∀ k n, Bd k n kt nt q → (a.1 = .null ∨ ∃ b, a.1 = .ref b) → inR a.2.1 → ((q.1.1 = .null ∨ ∃ b, q.1.1 = .ref b) → GX sc M_Law_plan mc ms 453 [(0, .ref c0), (1, .ref (XB + 200)), (2, V a2), (3, V a3), (5, q.1.1)] [] (wz q.1.2) kt nt K) → GX sc M_Law_plan mc ms 175 [(0, .ref c0), (1, .ref (XB + 200)), (2, V a2), (3, V a3), (5, a.1), (6, V a.2.1)] [] (wz a.2.2) k n K) {c5 : Value} (hc5 : c5 = .null ∨ ∃ b, c5 = .ref b) {a6 : Int} (ha6 : inR a6) {a7 : Int} (ha7 : inR a7) {c8 : Nat} {st0 : Int} (hst0 : inR st0) {ct1 : Nat} {S : St} {L : List PC} {q : (Value × LZ) × Nat × Nat} (h : jf2_Law_plan_235_175 sc c0 a2 a3 go c5 a6 a7 c8 st0 ct1 S L = some q) {k n : Nat} (hb : Bd k n kt nt q) (hx : ((q.1.1 = .null ∨ ∃ b, q.1.1 = .ref b) → GX sc M_Law_plan mc ms 453 [(0, .ref c0), (1, .ref (XB + 200)), (2, V a2), (3, V a3), (5, q.1.1)] [] (wz q.1.2) kt nt K)) : GX sc M_Law_plan mc ms 235 [(0, .ref c0), (1, .ref (XB + 200)), (2, V a2), (3, V a3), (5, c5), (6, V a6), (7, V a7), (8, .ref c8)] [V st0, .ref ct1] (wz (S, L)) k n K := by
  unfold jf2_Law_plan_235_175 at h
  refine bnE h ?_
  clear h
  intro L82 e_L82 h
  refine wx_put (Z := (S, L)) (pc := 235) (ci := 11) (f := 0) e_L82 (dK D_Law_plan_2 29 rfl) q_874 (ltK rfl) (ltK rfl) rfl okInt ?_
  refine x_aload (pc := 238) (j := 7) (dK D_Law_plan_2 30 rfl) rfl ?_
  refine x_iload (pc := 240) (j := 6) (dK D_Law_plan_2 31 rfl) rfl ?_
  refine wx_iconst (pc := 242) (dK D_Law_plan_2 32 rfl) ?_
  refine wx_idiv (pc := 243) (dK D_Law_plan_2 33 rfl) ha7 (inRk rfl) (by decide) ?_
  refine wx_iconst (pc := 244) (dK D_Law_plan_2 34 rfl) ?_
  refine nmE h ?_
  clear h
  intro v83 e_v83 h
  refine wsk (st' := [V 5, V v83, .ref c8]) (congrArg (fun z9 => [V 5, z9, .ref c8]) (Vn e_v83)) ?_
  refine wx_irem (pc := 245) (dK D_Law_plan_2 35 rfl) (Vn_in e_v83) (inRk rfl) (by decide) ?_
  refine nmE h ?_
  clear h
  intro v84 e_v84 h
  refine wtop e_v84 ?_
  refine bnE h ?_
  clear h
  intro L85 e_L85 h
  refine wx_put (Z := (S, L82)) (pc := 246) (ci := 11) (f := 1) e_L85 (dK D_Law_plan_2 36 rfl) q_876 (ltK rfl) (ltK rfl) rfl okInt ?_
  refine x_aload (pc := 249) (j := 7) (dK D_Law_plan_2 37 rfl) rfl ?_
  refine x_iload (pc := 251) (j := 6) (dK D_Law_plan_2 38 rfl) rfl ?_
  refine wx_bipush (pc := 253) (dK D_Law_plan_2 39 rfl) rfl ?_
  refine wx_idiv (pc := 255) (dK D_Law_plan_2 40 rfl) ha7 (inRk rfl) (by decide) ?_
  refine wx_iconst (pc := 256) (dK D_Law_plan_2 41 rfl) ?_
  refine nmE h ?_
  clear h
  intro v86 e_v86 h
  refine wsk (st' := [V 4, V v86, .ref c8]) (congrArg (fun z9 => [V 4, z9, .ref c8]) (Vn e_v86)) ?_
  refine wx_irem (pc := 257) (dK D_Law_plan_2 42 rfl) (Vn_in e_v86) (inRk rfl) (by decide) ?_
  refine nmE h ?_
  clear h
  intro v87 e_v87 h
  refine wtop e_v87 ?_
  refine wx_if_ne (pc := 258) (t := 265) (dK D_Law_plan_2 43 rfl) rfl (Vn_in e_v87) (fun hc194 => ?_) (fun hc194 => ?_)
  · replace h := ifN h hc194
    refine wx_iconst (pc := 265) (dK D_Law_plan_2 46 rfl) ?_
    exact tj2_Law_plan_266_175 ha2 ha3 hkt hnt ih hc5 ha6 ha7 (inRk rfl) h hb hx
  · replace h := ifP h hc194
    refine wx_iconst (pc := 261) (dK D_Law_plan_2 44 rfl) ?_
    refine x_goto (pc := 262) (tgt := 266) (dK D_Law_plan_2 45 rfl) rfl ?_
    exact tj2_Law_plan_266_175 ha2 ha3 hkt hnt ih hc5 ha6 ha7 (inRk rfl) h hb hx
def lb2_Law_plan_175 (sc : SC) (c0 : Nat) (a2 : Int) (a3 : Int) (go : Value × Int × LZ → Option ((Value × LZ) × Nat × Nat)) (c5 : Value) (a6 : Int) (S : St) (L : List PC) : Option ((Value × LZ) × Nat × Nat) := nm (wr (a3.tdiv 4096)) fun v71 => nm (wr (v71.tmod 19)) fun v72 => if v72 ≤ a6 then (some ((c5, (S, L)), 0, 0)) else (nm (wr ((a2 + 1) + a6)) fun v73 => bnO (gn_Law_pick sc v73 S L) fun p74 => if L.length < 900000000 then adC 1 7 (nw L (11, dfl 11) fun r76 L77 => bnO (gn_LI_init r76 S L77) fun p79 => nm (wr (p74.tmod 4)) fun v80 => if v80 = 0 then (jf2_Law_plan_235_175 sc c0 a2 a3 go c5 a6 p74 r76 4 r76 S L77) else (nm (wr (p74.tmod 4)) fun v81 => if v81 = 1 then (jf2_Law_plan_235_175 sc c0 a2 a3 go c5 a6 p74 r76 2 r76 S L77) else (jf2_Law_plan_235_175 sc c0 a2 a3 go c5 a6 p74 r76 1 r76 S L77))) else none)
def lo2_Law_plan_175 (sc : SC) (c0 : Nat) (a2 : Int) (a3 : Int) : Nat → Value × Int × LZ → Option ((Value × LZ) × Nat × Nat) := lp fun go p => lb2_Law_plan_175 sc c0 a2 a3 go p.1 p.2.1 p.2.2.1 p.2.2.2
theorem tl2_Law_plan_175 {sc : SC} {c0 : Nat} {a2 : Int} (ha2 : inR a2) {a3 : Int} (ha3 : inR a3) {K : Option Value → List PC → Prop} {mc ms kt nt : Nat} (hkt : kt ≤ mc) (hnt : nt ≤ ms) : ∀ (N : Nat) (a : Value × Int × LZ) (q : (Value × LZ) × Nat × Nat), lo2_Law_plan_175 sc c0 a2 a3 N a = some q → ∀ k n, Bd k n kt nt q → (a.1 = .null ∨ ∃ b, a.1 = .ref b) → inR a.2.1 → ((q.1.1 = .null ∨ ∃ b, q.1.1 = .ref b) → GX sc M_Law_plan mc ms 453 [(0, .ref c0), (1, .ref (XB + 200)), (2, V a2), (3, V a3), (5, q.1.1)] [] (wz q.1.2) kt nt K) → GX sc M_Law_plan mc ms 175 [(0, .ref c0), (1, .ref (XB + 200)), (2, V a2), (3, V a3), (5, a.1), (6, V a.2.1)] [] (wz a.2.2) k n K := by
  refine lp_ind2 (P := fun (a : Value × Int × LZ) (q : (Value × LZ) × Nat × Nat) => ∀ k n, Bd k n kt nt q → (a.1 = .null ∨ ∃ b, a.1 = .ref b) → inR a.2.1 → ((q.1.1 = .null ∨ ∃ b, q.1.1 = .ref b) → GX sc M_Law_plan mc ms 453 [(0, .ref c0), (1, .ref (XB + 200)), (2, V a2), (3, V a3), (5, q.1.1)] [] (wz q.1.2) kt nt K) → GX sc M_Law_plan mc ms 175 [(0, .ref c0), (1, .ref (XB + 200)), (2, V a2), (3, V a3), (5, a.1), (6, V a.2.1)] [] (wz a.2.2) k n K) (fun go ih a q h => ?_)
  obtain ⟨c5, a6, ⟨S, L⟩⟩ := a
  intro k n hb hc5 ha6 hx
  show GX sc M_Law_plan mc ms 175 [(0, .ref c0), (1, .ref (XB + 200)), (2, V a2), (3, V a3), (5, c5), (6, V a6)] [] (wz (S, L)) k n K
  replace h : lb2_Law_plan_175 sc c0 a2 a3 go c5 a6 S L = some q := h
  unfold lb2_Law_plan_175 at h
  refine x_iload (pc := 175) (j := 5) (dK D_Law_plan_1 45 rfl) rfl ?_
  refine x_iloadn (pc := 177) (i0 := 3) (j := 3) (dK D_Law_plan_1 46 rfl) rfl rfl ?_
  refine wx_sipush (pc := 178) (dK D_Law_plan_1 47 rfl) rfl ?_
  refine wx_idiv (pc := 181) (dK D_Law_plan_1 48 rfl) ha3 (inRk rfl) (by decide) ?_
  refine wx_bipush (pc := 182) (dK D_Law_plan_1 49 rfl) rfl ?_
  refine nmE h ?_
  clear h
  intro v71 e_v71 h
  refine wsk (st' := [V 19, V v71, V a6]) (congrArg (fun z9 => [V 19, z9, V a6]) (Vn e_v71)) ?_
  refine wx_irem (pc := 184) (dK D_Law_plan_2 0 rfl) (Vn_in e_v71) (inRk rfl) (by decide) ?_
  refine nmE h ?_
  clear h
  intro v72 e_v72 h
  refine wtop e_v72 ?_
  refine wx_icmp_ge (pc := 185) (t := 453) (dK D_Law_plan_2 1 rfl) rfl ha6 (Vn_in e_v72) (fun hc197 => ?_) (fun hc197 => ?_)
  · replace h := ifP h hc197
    obtain rfl := Option.some.inj h
    refine x_weak (ls' := [(0, .ref c0), (1, .ref (XB + 200)), (2, V a2), (3, V a3), (5, c5)]) (sbc 0 rfl (sbc 1 rfl (sbc 2 rfl (sbc 3 rfl (sbc 4 rfl sbn))))) ?_
    refine x_room (bdk hb) (bdn hb) ?_
    exact hx hc5
  · replace h := ifN h hc197
    refine x_aloadn (pc := 188) (i0 := 1) (j := 1) (dK D_Law_plan_2 2 rfl) rfl rfl ?_
    refine x_iloadn (pc := 189) (i0 := 2) (j := 2) (dK D_Law_plan_2 3 rfl) rfl rfl ?_
    refine wx_iconst (pc := 190) (dK D_Law_plan_2 4 rfl) ?_
    refine wx_iadd (pc := 191) (dK D_Law_plan_2 5 rfl) ?_
    refine x_iload (pc := 192) (j := 5) (dK D_Law_plan_2 6 rfl) rfl ?_
    refine wx_iadd (pc := 194) (dK D_Law_plan_2 7 rfl) ?_
    refine nmE h ?_
    clear h
    intro v73 e_v73 h
    refine wtop e_v73 ?_
    refine bnE h ?_
    clear h
    intro p74 e_p74 h
    refine x_callS (pc := 195) (As := [.ref (XB + 200), V v73]) (rest := []) (mc' := 0) (ms' := 0) (dK D_Law_plan_2 8 rfl) Q_Law_362 (fitK rfl) rfl (leK rfl) (Nat.le_trans (bdk hb) hkt) (Nat.le_trans (bdn hb) hnt) (tg_Law_pick (Vn_in e_v73) e_p74) (kxI' (fun h_p74 => ?_))
    refine x_istore (pc := 198) (ls2 := [(7, V p74), (0, .ref c0), (1, .ref (XB + 200)), (2, V a2), (3, V a3), (5, c5), (6, V a6)]) (dK D_Law_plan_2 9 rfl) (ltK rfl) rfl ?_
    refine gdE h ?_
    clear h
    intro hl75 h
    obtain ⟨y78, h9, e9⟩ := adE2 h
    clear h
    subst e9
    have h := h9
    clear h9
    refine nwE h ?_
    clear h
    intro r76 L77 e_r76 e_L77 h
    have hk1 := Nat.le_trans (bd1 hb) hkt
    have hn1 := Nat.le_trans (bd2 hb) hnt
    replace hb := bdA hb
    refine wn_new (Z := (S, L)) (pc := 200) (ci := 11) (N := 7) e_r76 e_L77 hl75 rfl (dK D_Law_plan_2 10 rfl) (ltK rfl) q_1033 q_867 q_38 hk1 hn1 ?_
    refine x_dup (pc := 203) (dK D_Law_plan_2 11 rfl) rfl ?_
    refine bnE h ?_
    clear h
    intro p79 e_p79 h
    refine x_callIN (pc := 204) (As := []) (rest := [.ref r76]) (mc' := 0) (ms' := 0) (dK D_Law_plan_2 12 rfl) Q_Law_376 (fitK rfl) rfl (leK rfl) (Nat.le_trans (bdk hb) hkt) (Nat.le_trans (bdn hb) hnt) (tg_LI_init  e_p79) (kxU ?_)
    refine x_astore (pc := 207) (ls2 := [(8, .ref r76), (7, V p74), (0, .ref c0), (1, .ref (XB + 200)), (2, V a2), (3, V a3), (5, c5), (6, V a6)]) (dK D_Law_plan_2 13 rfl) (ltK rfl) rfl ?_
    refine x_aload (pc := 209) (j := 0) (dK D_Law_plan_2 14 rfl) rfl ?_
    refine x_iload (pc := 211) (j := 1) (dK D_Law_plan_2 15 rfl) rfl ?_
    refine wx_iconst (pc := 213) (dK D_Law_plan_2 16 rfl) ?_
    refine wx_irem (pc := 214) (dK D_Law_plan_2 17 rfl) h_p74 (inRk rfl) (by decide) ?_
    refine nmE h ?_
    clear h
    intro v80 e_v80 h
    refine wtop e_v80 ?_
    refine wx_if_ne (pc := 215) (t := 222) (dK D_Law_plan_2 18 rfl) rfl (Vn_in e_v80) (fun hc196 => ?_) (fun hc196 => ?_)
    · replace h := ifN h hc196
      refine x_iload (pc := 222) (j := 1) (dK D_Law_plan_2 21 rfl) rfl ?_
      refine wx_iconst (pc := 224) (dK D_Law_plan_2 22 rfl) ?_
      refine wx_irem (pc := 225) (dK D_Law_plan_2 23 rfl) h_p74 (inRk rfl) (by decide) ?_
      refine wx_iconst (pc := 226) (dK D_Law_plan_2 24 rfl) ?_
      refine nmE h ?_
      clear h
      intro v81 e_v81 h
      refine wsk (st' := [V 1, V v81, .ref r76]) (congrArg (fun z9 => [V 1, z9, .ref r76]) (Vn e_v81)) ?_
      refine wx_icmp_ne (pc := 227) (t := 234) (dK D_Law_plan_2 25 rfl) rfl (Vn_in e_v81) (inRk rfl) (fun hc195 => ?_) (fun hc195 => ?_)
      · replace h := ifN h hc195
        refine wx_iconst (pc := 234) (dK D_Law_plan_2 28 rfl) ?_
        refine x_weak (ls' := [(0, .ref c0), (1, .ref (XB + 200)), (2, V a2), (3, V a3), (5, c5), (6, V a6), (7, V p74), (8, .ref r76)]) (sbc 2 rfl (sbc 3 rfl (sbc 4 rfl (sbc 5 rfl (sbc 6 rfl (sbc 7 rfl (sbc 1 rfl (sbc 0 rfl sbn)))))))) ?_
        exact tj2_Law_plan_235_175 ha2 ha3 hkt hnt ih hc5 ha6 h_p74 (inRk rfl) h hb hx
      · replace h := ifP h hc195
        refine wx_iconst (pc := 230) (dK D_Law_plan_2 26 rfl) ?_
        refine x_goto (pc := 231) (tgt := 235) (dK D_Law_plan_2 27 rfl) rfl ?_
        refine x_weak (ls' := [(0, .ref c0), (1, .ref (XB + 200)), (2, V a2), (3, V a3), (5, c5), (6, V a6), (7, V p74), (8, .ref r76)]) (sbc 2 rfl (sbc 3 rfl (sbc 4 rfl (sbc 5 rfl (sbc 6 rfl (sbc 7 rfl (sbc 1 rfl (sbc 0 rfl sbn)))))))) ?_
        exact tj2_Law_plan_235_175 ha2 ha3 hkt hnt ih hc5 ha6 h_p74 (inRk rfl) h hb hx
    · replace h := ifP h hc196
      refine wx_iconst (pc := 218) (dK D_Law_plan_2 19 rfl) ?_
      refine x_goto (pc := 219) (tgt := 235) (dK D_Law_plan_2 20 rfl) rfl ?_
      refine x_weak (ls' := [(0, .ref c0), (1, .ref (XB + 200)), (2, V a2), (3, V a3), (5, c5), (6, V a6), (7, V p74), (8, .ref r76)]) (sbc 2 rfl (sbc 3 rfl (sbc 4 rfl (sbc 5 rfl (sbc 6 rfl (sbc 7 rfl (sbc 1 rfl (sbc 0 rfl sbn)))))))) ?_
      exact tj2_Law_plan_235_175 ha2 ha3 hkt hnt ih hc5 ha6 h_p74 (inRk rfl) h hb hx
def jf2_Law_plan_517_456 (sc : SC) (c0 : Nat) (a2 : Int) (a3 : Int) (go : Value × Int × LZ → Option ((Value × LZ) × Nat × Nat)) (c5 : Value) (a6 : Int) (a7 : Int) (c8 : Nat) (st0 : Int) (ct1 : Nat) (S : St) (L : List PC) : Option ((Value × LZ) × Nat × Nat) := if st0 = 0 ∨ st0 = 1 then (bnO (pf L ct1 11 6 (V st0)) fun L212 => nm (wr (a7.tdiv 20)) fun v214 => nm (wr (v214.tmod 5)) fun v215 => nm (wr (v215.tmod 3)) fun v216 => bnO (pf L212 c8 11 2 (V v216)) fun L217 => nm (wr (a7.tdiv 100)) fun v218 => nm (wr (a7.tdiv 200)) fun v219 => nm (wr ((v218.tmod 2) * (v219.tmod 25))) fun v220 => bnO (pf L217 c8 11 4 (V v220)) fun L221 => bnO (gfV L221 c0 12 5) fun v222 => rfB v222 fun r223 => if isK L221 r223 13 = true then (bnO (gn_AL_add r223 (.ref c8) S L221) fun p224 => adC p224.2.1 p224.2.2 (if p224.1.2.2.length < 900000000 then adC 1 4 (nw p224.1.2.2 (15, dfl 15) fun r227 L228 => bnO (gn_SB_init r227 p224.1.2.1 L228) fun p230 => adC p230.2.1 p230.2.2 (rfB c5 fun r231 => if isK p230.1.2 r227 15 = true then (bnO (gn_SB_append r227 r231 p230.1.1 p230.1.2) fun p232 => adC p232.2.1 p232.2.2 (rfB p232.1.1 fun r234 => if isK p232.1.2.2 r234 15 = true then (bnO (gn_SB_append r234 (XB + 19) p232.1.2.1 p232.1.2.2) fun p235 => adC p235.2.1 p235.2.2 (bnO (gfI p235.1.2.2 c8 11 0) fun v237 => rfB p235.1.1 fun r238 => if isK p235.1.2.2 r238 15 = true then (bnO (gn_SB_append2 r238 v237 p235.1.2.1 p235.1.2.2) fun p239 => adC p239.2.1 p239.2.2 (rfB p239.1.1 fun r241 => if isK p239.1.2.2 r241 15 = true then (bnO (gn_SB_append r241 (XB + 14) p239.1.2.1 p239.1.2.2) fun p242 => adC p242.2.1 p242.2.2 (bnO (gfI p242.1.2.2 c8 11 6) fun v244 => if v244 = 0 then (rfB p242.1.1 fun r245 => if isK p242.1.2.2 r245 15 = true then (bnO (gn_SB_append2 r245 0 p242.1.2.1 p242.1.2.2) fun p246 => adC p246.2.1 p246.2.2 (rfB p246.1.1 fun r248 => if isK p246.1.2.2 r248 15 = true then (bnO (gn_SB_append r248 (XB + 14) p246.1.2.1 p246.1.2.2) fun p249 => adC p249.2.1 p249.2.2 (bnO (gfI p249.1.2.2 c8 11 2) fun v251 => rfB p249.1.1 fun r252 => if isK p249.1.2.2 r252 15 = true then (bnO (gn_SB_append2 r252 v251 p249.1.2.1 p249.1.2.2) fun p253 => adC p253.2.1 p253.2.2 (rfB p253.1.1 fun r255 => if isK p253.1.2.2 r255 15 = true then (bnO (gn_SB_append r255 (XB + 14) p253.1.2.1 p253.1.2.2) fun p256 => adC p256.2.1 p256.2.2 (bnO (gfI p256.1.2.2 c8 11 4) fun v258 => rfB p256.1.1 fun r259 => if isK p256.1.2.2 r259 15 = true then (bnO (gn_SB_append2 r259 v258 p256.1.2.1 p256.1.2.2) fun p260 => adC p260.2.1 p260.2.2 (rfB p260.1.1 fun r262 => if isK p260.1.2.2 r262 15 = true then (bnO (gn_SB_append r262 (XB + 15) p260.1.2.1 p260.1.2.2) fun p263 => adC p263.2.1 p263.2.2 (rfB p263.1.1 fun r265 => if isK p263.1.2.2 r265 15 = true then (bnO (gn_SB_toString r265 p263.1.2.1 p263.1.2.2) fun p266 => adC p266.2.1 p266.2.2 (nm (wr (a6 + 1)) fun v268 => go (p266.1.1, v268, (p266.1.2.1, p266.1.2.2)))) else none)) else none)) else none)) else none)) else none)) else none)) else none) else (rfB p242.1.1 fun r269 => if isK p242.1.2.2 r269 15 = true then (bnO (gn_SB_append2 r269 1 p242.1.2.1 p242.1.2.2) fun p270 => adC p270.2.1 p270.2.2 (rfB p270.1.1 fun r272 => if isK p270.1.2.2 r272 15 = true then (bnO (gn_SB_append r272 (XB + 14) p270.1.2.1 p270.1.2.2) fun p273 => adC p273.2.1 p273.2.2 (bnO (gfI p273.1.2.2 c8 11 2) fun v275 => rfB p273.1.1 fun r276 => if isK p273.1.2.2 r276 15 = true then (bnO (gn_SB_append2 r276 v275 p273.1.2.1 p273.1.2.2) fun p277 => adC p277.2.1 p277.2.2 (rfB p277.1.1 fun r279 => if isK p277.1.2.2 r279 15 = true then (bnO (gn_SB_append r279 (XB + 14) p277.1.2.1 p277.1.2.2) fun p280 => adC p280.2.1 p280.2.2 (bnO (gfI p280.1.2.2 c8 11 4) fun v282 => rfB p280.1.1 fun r283 => if isK p280.1.2.2 r283 15 = true then (bnO (gn_SB_append2 r283 v282 p280.1.2.1 p280.1.2.2) fun p284 => adC p284.2.1 p284.2.2 (rfB p284.1.1 fun r286 => if isK p284.1.2.2 r286 15 = true then (bnO (gn_SB_append r286 (XB + 15) p284.1.2.1 p284.1.2.2) fun p287 => adC p287.2.1 p287.2.2 (rfB p287.1.1 fun r289 => if isK p287.1.2.2 r289 15 = true then (bnO (gn_SB_toString r289 p287.1.2.1 p287.1.2.2) fun p290 => adC p290.2.1 p290.2.2 (nm (wr (a6 + 1)) fun v292 => go (p290.1.1, v292, (p290.1.2.1, p290.1.2.2)))) else none)) else none)) else none)) else none)) else none)) else none)) else none))) else none)) else none)) else none)) else none)) else none)) else none) else none
theorem tj2_Law_plan_517_456 {sc : SC} {c0 : Nat} {a2 : Int} (ha2 : inR a2) {a3 : Int} (ha3 : inR a3) {K : Option Value → List PC → Prop} {mc ms kt nt : Nat} (hkt : kt ≤ mc) (hnt : nt ≤ ms) {go : Value × Int × LZ → Option ((Value × LZ) × Nat × Nat)} (ih : ∀ (a : Value × Int × LZ) (q : (Value × LZ) × Nat × Nat), go a = some q → ∀ k n, Bd k n kt nt q → (a.1 = .null ∨ ∃ b, a.1 = .ref b) → inR a.2.1 → ((q.1.1 = .null ∨ ∃ b, q.1.1 = .ref b) → GX sc M_Law_plan mc ms 659 [(0, .ref c0), (1, .ref (XB + 200)), (2, V a2), (3, V a3), (5, q.1.1)] [] (wz q.1.2) kt nt K) → GX sc M_Law_plan mc ms 456 [(0, .ref c0), (1, .ref (XB + 200)), (2, V a2), (3, V a3), (5, a.1), (6, V a.2.1)] [] (wz a.2.2) k n K) {c5 : Value} (hc5 : c5 = .null ∨ ∃ b, c5 = .ref b) {a6 : Int} (ha6 : inR a6) {a7 : Int} (ha7 : inR a7) {c8 : Nat} {st0 : Int} (hst0 : inR st0) {ct1 : Nat} {S : St} {L : List PC} {q : (Value × LZ) × Nat × Nat} (h : jf2_Law_plan_517_456 sc c0 a2 a3 go c5 a6 a7 c8 st0 ct1 S L = some q) {k n : Nat} (hb : Bd k n kt nt q) (hx : ((q.1.1 = .null ∨ ∃ b, q.1.1 = .ref b) → GX sc M_Law_plan mc ms 659 [(0, .ref c0), (1, .ref (XB + 200)), (2, V a2), (3, V a3), (5, q.1.1)] [] (wz q.1.2) kt nt K)) : GX sc M_Law_plan mc ms 517 [(0, .ref c0), (1, .ref (XB + 200)), (2, V a2), (3, V a3), (5, c5), (6, V a6), (7, V a7), (8, .ref c8)] [V st0, .ref ct1] (wz (S, L)) k n K := by
  unfold jf2_Law_plan_517_456 at h
  refine gdE h ?_
  clear h
  intro hz213 h
  refine bnE h ?_
  clear h
  intro L212 e_L212 h
  refine wx_put (Z := (S, L)) (pc := 517) (ci := 11) (f := 6) e_L212 (dK D_Law_plan_5 17 rfl) q_891 (ltK rfl) (ltK rfl) rfl (okBool hz213) ?_
  refine x_aload (pc := 520) (j := 7) (dK D_Law_plan_5 18 rfl) rfl ?_
  refine x_iload (pc := 522) (j := 6) (dK D_Law_plan_5 19 rfl) rfl ?_
  refine wx_bipush (pc := 524) (dK D_Law_plan_5 20 rfl) rfl ?_
  refine wx_idiv (pc := 526) (dK D_Law_plan_5 21 rfl) ha7 (inRk rfl) (by decide) ?_
  refine wx_iconst (pc := 527) (dK D_Law_plan_5 22 rfl) ?_
  refine nmE h ?_
  clear h
  intro v214 e_v214 h
  refine wsk (st' := [V 5, V v214, .ref c8]) (congrArg (fun z9 => [V 5, z9, .ref c8]) (Vn e_v214)) ?_
  refine wx_irem (pc := 528) (dK D_Law_plan_5 23 rfl) (Vn_in e_v214) (inRk rfl) (by decide) ?_
  refine wx_iconst (pc := 529) (dK D_Law_plan_5 24 rfl) ?_
  refine nmE h ?_
  clear h
  intro v215 e_v215 h
  refine wsk (st' := [V 3, V v215, .ref c8]) (congrArg (fun z9 => [V 3, z9, .ref c8]) (Vn e_v215)) ?_
  refine wx_irem (pc := 530) (dK D_Law_plan_5 25 rfl) (Vn_in e_v215) (inRk rfl) (by decide) ?_
  refine nmE h ?_
  clear h
  intro v216 e_v216 h
  refine wtop e_v216 ?_
  refine bnE h ?_
  clear h
  intro L217 e_L217 h
  refine wx_put (Z := (S, L212)) (pc := 531) (ci := 11) (f := 2) e_L217 (dK D_Law_plan_5 26 rfl) q_879 (ltK rfl) (ltK rfl) rfl okInt ?_
  refine x_aload (pc := 534) (j := 7) (dK D_Law_plan_5 27 rfl) rfl ?_
  refine x_iload (pc := 536) (j := 6) (dK D_Law_plan_5 28 rfl) rfl ?_
  refine wx_bipush (pc := 538) (dK D_Law_plan_5 29 rfl) rfl ?_
  refine wx_idiv (pc := 540) (dK D_Law_plan_5 30 rfl) ha7 (inRk rfl) (by decide) ?_
  refine wx_iconst (pc := 541) (dK D_Law_plan_5 31 rfl) ?_
  refine nmE h ?_
  clear h
  intro v218 e_v218 h
  refine wsk (st' := [V 2, V v218, .ref c8]) (congrArg (fun z9 => [V 2, z9, .ref c8]) (Vn e_v218)) ?_
  refine wx_irem (pc := 542) (dK D_Law_plan_5 32 rfl) (Vn_in e_v218) (inRk rfl) (by decide) ?_
  refine x_iload (pc := 543) (j := 6) (dK D_Law_plan_5 33 rfl) rfl ?_
  refine wx_sipush (pc := 545) (dK D_Law_plan_5 34 rfl) rfl ?_
  refine wx_idiv (pc := 548) (dK D_Law_plan_5 35 rfl) ha7 (inRk rfl) (by decide) ?_
  refine wx_bipush (pc := 549) (dK D_Law_plan_5 36 rfl) rfl ?_
  refine nmE h ?_
  clear h
  intro v219 e_v219 h
  refine wsk (st' := [V 25, V v219, V (v218.tmod 2), .ref c8]) (congrArg (fun z9 => [V 25, z9, V (v218.tmod 2), .ref c8]) (Vn e_v219)) ?_
  refine wx_irem (pc := 551) (dK D_Law_plan_5 37 rfl) (Vn_in e_v219) (inRk rfl) (by decide) ?_
  refine wx_imul (pc := 552) (dK D_Law_plan_5 38 rfl) ?_
  refine nmE h ?_
  clear h
  intro v220 e_v220 h
  refine wtop e_v220 ?_
  refine bnE h ?_
  clear h
  intro L221 e_L221 h
  refine wx_put (Z := (S, L217)) (pc := 553) (ci := 11) (f := 4) e_L221 (dK D_Law_plan_5 39 rfl) q_885 (ltK rfl) (ltK rfl) rfl okInt ?_
  refine x_aloadn (pc := 556) (i0 := 0) (j := 0) (dK D_Law_plan_5 40 rfl) rfl rfl ?_
  refine bnE h ?_
  clear h
  intro v222 e_v222 h
  refine wx_getV (pc := 557) (ci := 12) (f := 5) e_v222 (dK D_Law_plan_5 41 rfl) q_778 (ltK rfl) (ltK rfl) (fun hv222 => ?_)
  refine x_aload (pc := 560) (j := 7) (dK D_Law_plan_5 42 rfl) rfl ?_
  refine rfE h ?_
  clear h
  intro r223 e_r223 h
  rw [e_r223]
  refine gdE h ?_
  clear h
  intro hk225 h
  refine bnE h ?_
  clear h
  intro p224 e_p224 h
  obtain ⟨yp224, h9, e9⟩ := adE2 h
  clear h
  subst e9
  have h := h9
  clear h9
  have hk1 := Nat.le_trans (bd1 hb) hkt
  have hn1 := Nat.le_trans (bd2 hb) hnt
  replace hb := bdA hb
  refine x_callX (pc := 562) (As := [.ref c8]) (rest := []) (mc' := p224.2.1) (ms' := p224.2.2) (dK D_Law_plan_5 43 rfl) Q_Law_378 sx_AL_add (fitK rfl) (isK_at (Z := (S, L221)) (ci := 13) hk225) rfl (leK rfl) hk1 hn1 (tg_AL_add (.inr ⟨_, rfl⟩) e_p224) (kxB' ?_)
  refine x_pop (pc := 565) (dK D_Law_plan_5 44 rfl) rfl ?_
  refine gdE h ?_
  clear h
  intro hl226 h
  obtain ⟨y229, h9, e9⟩ := adE2 h
  clear h
  subst e9
  have h := h9
  clear h9
  refine nwE h ?_
  clear h
  intro r227 L228 e_r227 e_L228 h
  have hk1 := Nat.le_trans (bd1 hb) hkt
  have hn1 := Nat.le_trans (bd2 hb) hnt
  replace hb := bdA hb
  refine wn_new (Z := (p224.1.2.1, p224.1.2.2)) (pc := 566) (ci := 15) (N := 4) e_r227 e_L228 hl226 rfl (dK D_Law_plan_5 45 rfl) (ltK rfl) q_1275 q_1276 q_33 hk1 hn1 ?_
  refine x_dup (pc := 569) (dK D_Law_plan_5 46 rfl) rfl ?_
  refine bnE h ?_
  clear h
  intro p230 e_p230 h
  obtain ⟨yp230, h9, e9⟩ := adE2 h
  clear h
  subst e9
  have h := h9
  clear h9
  have hk1 := Nat.le_trans (bd1 hb) hkt
  have hn1 := Nat.le_trans (bd2 hb) hnt
  replace hb := bdA hb
  refine x_callI (pc := 570) (As := []) (rest := [.ref r227]) (mc' := p230.2.1) (ms' := p230.2.2) (dK D_Law_plan_5 47 rfl) Q_Law_165 (fitK rfl) rfl (leK rfl) hk1 hn1 (tg_SB_init  e_p230) (kxU ?_)
  refine x_aloadV (pc := 573) (j := 4) hc5 (dK D_Law_plan_5 48 rfl) rfl ?_
  refine rfE h ?_
  clear h
  intro r231 e_r231 h
  rw [e_r231]
  refine gdE h ?_
  clear h
  intro hk233 h
  refine bnE h ?_
  clear h
  intro p232 e_p232 h
  obtain ⟨yp232, h9, e9⟩ := adE2 h
  clear h
  subst e9
  have h := h9
  clear h9
  have hk1 := Nat.le_trans (bd1 hb) hkt
  have hn1 := Nat.le_trans (bd2 hb) hnt
  replace hb := bdA hb
  refine x_callX (pc := 575) (As := [.ref r231]) (rest := []) (mc' := p232.2.1) (ms' := p232.2.2) (dK D_Law_plan_5 49 rfl) Q_Law_168 sx_SB_append (fitK rfl) (isK_at (Z := (p230.1.1, p230.1.2)) (ci := 15) hk233) rfl (leK rfl) hk1 hn1 (tg_SB_append  e_p232) (kxR (fun h_p232 => ?_))
  refine x_ldcSw (own := "FlatPlanLaw") (text := "story ") (j := 19) rfl (dK D_Law_plan_6 0 rfl) (List.mem_of_getElem? (i := 19) rfl) ?_
  refine rfE h ?_
  clear h
  intro r234 e_r234 h
  rw [e_r234]
  refine gdE h ?_
  clear h
  intro hk236 h
  refine bnE h ?_
  clear h
  intro p235 e_p235 h
  obtain ⟨yp235, h9, e9⟩ := adE2 h
  clear h
  subst e9
  have h := h9
  clear h9
  have hk1 := Nat.le_trans (bd1 hb) hkt
  have hn1 := Nat.le_trans (bd2 hb) hnt
  replace hb := bdA hb
  refine x_callX (pc := 581) (As := [.ref (XB + 19)]) (rest := []) (mc' := p235.2.1) (ms' := p235.2.2) (dK D_Law_plan_6 1 rfl) Q_Law_168 sx_SB_append (fitK rfl) (isK_at (Z := (p232.1.2.1, p232.1.2.2)) (ci := 15) hk236) rfl (leK rfl) hk1 hn1 (tg_SB_append  e_p235) (kxR (fun h_p235 => ?_))
  refine x_aload (pc := 584) (j := 7) (dK D_Law_plan_6 2 rfl) rfl ?_
  refine bnE h ?_
  clear h
  intro v237 e_v237 h
  refine wx_getI (pc := 586) (ci := 11) (f := 0) e_v237 (dK D_Law_plan_6 3 rfl) q_874 (ltK rfl) (ltK rfl) ?_
  refine rfE h ?_
  clear h
  intro r238 e_r238 h
  rw [e_r238]
  refine gdE h ?_
  clear h
  intro hk240 h
  refine bnE h ?_
  clear h
  intro p239 e_p239 h
  obtain ⟨yp239, h9, e9⟩ := adE2 h
  clear h
  subst e9
  have h := h9
  clear h9
  have hk1 := Nat.le_trans (bd1 hb) hkt
  have hn1 := Nat.le_trans (bd2 hb) hnt
  replace hb := bdA hb
  refine x_callX (pc := 589) (As := [V v237]) (rest := []) (mc' := p239.2.1) (ms' := p239.2.2) (dK D_Law_plan_6 4 rfl) Q_Law_172 sx_SB_append2 (fitK rfl) (isK_at (Z := (p235.1.2.1, p235.1.2.2)) (ci := 15) hk240) rfl (leK rfl) hk1 hn1 (tg_SB_append2 (vI_at e_v237).2 e_p239) (kxR (fun h_p239 => ?_))
  refine x_ldcSw (own := "FlatPlanLaw") (text := " ") (j := 14) rfl (dK D_Law_plan_6 5 rfl) (List.mem_of_getElem? (i := 14) rfl) ?_
  refine rfE h ?_
  clear h
  intro r241 e_r241 h
  rw [e_r241]
  refine gdE h ?_
  clear h
  intro hk243 h
  refine bnE h ?_
  clear h
  intro p242 e_p242 h
  obtain ⟨yp242, h9, e9⟩ := adE2 h
  clear h
  subst e9
  have h := h9
  clear h9
  have hk1 := Nat.le_trans (bd1 hb) hkt
  have hn1 := Nat.le_trans (bd2 hb) hnt
  replace hb := bdA hb
  refine x_callX (pc := 595) (As := [.ref (XB + 14)]) (rest := []) (mc' := p242.2.1) (ms' := p242.2.2) (dK D_Law_plan_6 6 rfl) Q_Law_168 sx_SB_append (fitK rfl) (isK_at (Z := (p239.1.2.1, p239.1.2.2)) (ci := 15) hk243) rfl (leK rfl) hk1 hn1 (tg_SB_append  e_p242) (kxR (fun h_p242 => ?_))
  refine x_aload (pc := 598) (j := 7) (dK D_Law_plan_6 7 rfl) rfl ?_
  refine bnE h ?_
  clear h
  intro v244 e_v244 h
  refine wx_getI (pc := 600) (ci := 11) (f := 6) e_v244 (dK D_Law_plan_6 8 rfl) q_891 (ltK rfl) (ltK rfl) ?_
  refine wx_if_eq (pc := 603) (t := 610) (dK D_Law_plan_6 9 rfl) rfl (vI_at e_v244).2 (fun hc293 => ?_) (fun hc293 => ?_)
  · replace h := ifP h hc293
    refine wx_iconst (pc := 610) (dK D_Law_plan_6 12 rfl) ?_
    refine rfE h ?_
    clear h
    intro r245 e_r245 h
    rw [e_r245]
    refine gdE h ?_
    clear h
    intro hk247 h
    refine bnE h ?_
    clear h
    intro p246 e_p246 h
    obtain ⟨yp246, h9, e9⟩ := adE2 h
    clear h
    subst e9
    have h := h9
    clear h9
    have hk1 := Nat.le_trans (bd1 hb) hkt
    have hn1 := Nat.le_trans (bd2 hb) hnt
    replace hb := bdA hb
    refine x_callX (pc := 611) (As := [V 0]) (rest := []) (mc' := p246.2.1) (ms' := p246.2.2) (dK D_Law_plan_6 13 rfl) Q_Law_172 sx_SB_append2 (fitK rfl) (isK_at (Z := (p242.1.2.1, p242.1.2.2)) (ci := 15) hk247) rfl (leK rfl) hk1 hn1 (tg_SB_append2 (inRk rfl) e_p246) (kxR (fun h_p246 => ?_))
    refine x_ldcSw (own := "FlatPlanLaw") (text := " ") (j := 14) rfl (dK D_Law_plan_6 14 rfl) (List.mem_of_getElem? (i := 14) rfl) ?_
    refine rfE h ?_
    clear h
    intro r248 e_r248 h
    rw [e_r248]
    refine gdE h ?_
    clear h
    intro hk250 h
    refine bnE h ?_
    clear h
    intro p249 e_p249 h
    obtain ⟨yp249, h9, e9⟩ := adE2 h
    clear h
    subst e9
    have h := h9
    clear h9
    have hk1 := Nat.le_trans (bd1 hb) hkt
    have hn1 := Nat.le_trans (bd2 hb) hnt
    replace hb := bdA hb
    refine x_callX (pc := 617) (As := [.ref (XB + 14)]) (rest := []) (mc' := p249.2.1) (ms' := p249.2.2) (dK D_Law_plan_6 15 rfl) Q_Law_168 sx_SB_append (fitK rfl) (isK_at (Z := (p246.1.2.1, p246.1.2.2)) (ci := 15) hk250) rfl (leK rfl) hk1 hn1 (tg_SB_append  e_p249) (kxR (fun h_p249 => ?_))
    refine x_aload (pc := 620) (j := 7) (dK D_Law_plan_6 16 rfl) rfl ?_
    refine bnE h ?_
    clear h
    intro v251 e_v251 h
    refine wx_getI (pc := 622) (ci := 11) (f := 2) e_v251 (dK D_Law_plan_6 17 rfl) q_879 (ltK rfl) (ltK rfl) ?_
    refine rfE h ?_
    clear h
    intro r252 e_r252 h
    rw [e_r252]
    refine gdE h ?_
    clear h
    intro hk254 h
    refine bnE h ?_
    clear h
    intro p253 e_p253 h
    obtain ⟨yp253, h9, e9⟩ := adE2 h
    clear h
    subst e9
    have h := h9
    clear h9
    have hk1 := Nat.le_trans (bd1 hb) hkt
    have hn1 := Nat.le_trans (bd2 hb) hnt
    replace hb := bdA hb
    refine x_callX (pc := 625) (As := [V v251]) (rest := []) (mc' := p253.2.1) (ms' := p253.2.2) (dK D_Law_plan_6 18 rfl) Q_Law_172 sx_SB_append2 (fitK rfl) (isK_at (Z := (p249.1.2.1, p249.1.2.2)) (ci := 15) hk254) rfl (leK rfl) hk1 hn1 (tg_SB_append2 (vI_at e_v251).2 e_p253) (kxR (fun h_p253 => ?_))
    refine x_ldcSw (own := "FlatPlanLaw") (text := " ") (j := 14) rfl (dK D_Law_plan_6 19 rfl) (List.mem_of_getElem? (i := 14) rfl) ?_
    refine rfE h ?_
    clear h
    intro r255 e_r255 h
    rw [e_r255]
    refine gdE h ?_
    clear h
    intro hk257 h
    refine bnE h ?_
    clear h
    intro p256 e_p256 h
    obtain ⟨yp256, h9, e9⟩ := adE2 h
    clear h
    subst e9
    have h := h9
    clear h9
    have hk1 := Nat.le_trans (bd1 hb) hkt
    have hn1 := Nat.le_trans (bd2 hb) hnt
    replace hb := bdA hb
    refine x_callX (pc := 631) (As := [.ref (XB + 14)]) (rest := []) (mc' := p256.2.1) (ms' := p256.2.2) (dK D_Law_plan_6 20 rfl) Q_Law_168 sx_SB_append (fitK rfl) (isK_at (Z := (p253.1.2.1, p253.1.2.2)) (ci := 15) hk257) rfl (leK rfl) hk1 hn1 (tg_SB_append  e_p256) (kxR (fun h_p256 => ?_))
    refine x_aload (pc := 634) (j := 7) (dK D_Law_plan_6 21 rfl) rfl ?_
    refine bnE h ?_
    clear h
    intro v258 e_v258 h
    refine wx_getI (pc := 636) (ci := 11) (f := 4) e_v258 (dK D_Law_plan_6 22 rfl) q_885 (ltK rfl) (ltK rfl) ?_
    refine rfE h ?_
    clear h
    intro r259 e_r259 h
    rw [e_r259]
    refine gdE h ?_
    clear h
    intro hk261 h
    refine bnE h ?_
    clear h
    intro p260 e_p260 h
    obtain ⟨yp260, h9, e9⟩ := adE2 h
    clear h
    subst e9
    have h := h9
    clear h9
    have hk1 := Nat.le_trans (bd1 hb) hkt
    have hn1 := Nat.le_trans (bd2 hb) hnt
    replace hb := bdA hb
    refine x_callX (pc := 639) (As := [V v258]) (rest := []) (mc' := p260.2.1) (ms' := p260.2.2) (dK D_Law_plan_6 23 rfl) Q_Law_172 sx_SB_append2 (fitK rfl) (isK_at (Z := (p256.1.2.1, p256.1.2.2)) (ci := 15) hk261) rfl (leK rfl) hk1 hn1 (tg_SB_append2 (vI_at e_v258).2 e_p260) (kxR (fun h_p260 => ?_))
    refine x_ldcSw (own := "FlatPlanLaw") (text := ";") (j := 15) rfl (dK D_Law_plan_6 24 rfl) (List.mem_of_getElem? (i := 15) rfl) ?_
    refine rfE h ?_
    clear h
    intro r262 e_r262 h
    rw [e_r262]
    refine gdE h ?_
    clear h
    intro hk264 h
    refine bnE h ?_
    clear h
    intro p263 e_p263 h
    obtain ⟨yp263, h9, e9⟩ := adE2 h
    clear h
    subst e9
    have h := h9
    clear h9
    have hk1 := Nat.le_trans (bd1 hb) hkt
    have hn1 := Nat.le_trans (bd2 hb) hnt
    replace hb := bdA hb
    refine x_callX (pc := 645) (As := [.ref (XB + 15)]) (rest := []) (mc' := p263.2.1) (ms' := p263.2.2) (dK D_Law_plan_6 25 rfl) Q_Law_168 sx_SB_append (fitK rfl) (isK_at (Z := (p260.1.2.1, p260.1.2.2)) (ci := 15) hk264) rfl (leK rfl) hk1 hn1 (tg_SB_append  e_p263) (kxR (fun h_p263 => ?_))
    refine rfE h ?_
    clear h
    intro r265 e_r265 h
    rw [e_r265]
    refine gdE h ?_
    clear h
    intro hk267 h
    refine bnE h ?_
    clear h
    intro p266 e_p266 h
    obtain ⟨yp266, h9, e9⟩ := adE2 h
    clear h
    subst e9
    have h := h9
    clear h9
    have hk1 := Nat.le_trans (bd1 hb) hkt
    have hn1 := Nat.le_trans (bd2 hb) hnt
    replace hb := bdA hb
    refine x_callX (pc := 648) (As := []) (rest := []) (mc' := p266.2.1) (ms' := p266.2.2) (dK D_Law_plan_6 26 rfl) Q_Law_175 sx_SB_toString (fitK rfl) (isK_at (Z := (p263.1.2.1, p263.1.2.2)) (ci := 15) hk267) rfl (leK rfl) hk1 hn1 (tg_SB_toString  e_p266) (kxR (fun h_p266 => ?_))
    refine x_astoreV (pc := 651) (ls2 := [(5, p266.1.1), (0, .ref c0), (1, .ref (XB + 200)), (2, V a2), (3, V a3), (6, V a6), (7, V a7), (8, .ref c8)]) h_p266 (dK D_Law_plan_6 27 rfl) (ltK rfl) rfl ?_
    refine nmE h ?_
    clear h
    intro v268 e_v268 h
    refine wx_iinc (pc := 653) (j := 5) (a := a6) (z := 1) (ls2 := [(6, V v268), (5, p266.1.1), (0, .ref c0), (1, .ref (XB + 200)), (2, V a2), (3, V a3), (7, V a7), (8, .ref c8)]) (dK D_Law_plan_6 28 rfl) rfl e_v268 (ltK rfl) (by simp [stI, List.filter, cato h_p266]) ?_
    refine x_goto (pc := 656) (tgt := 456) (dK D_Law_plan_6 29 rfl) rfl ?_
    refine x_weak (ls' := [(0, .ref c0), (1, .ref (XB + 200)), (2, V a2), (3, V a3), (5, p266.1.1), (6, V v268)]) (sbc 2 rfl (sbc 3 rfl (sbc 4 rfl (sbc 5 rfl (sbc 1 rfl (sbc 0 rfl sbn)))))) ?_
    replace h := ih _ _ h
    exact h _ _ hb h_p266 (Vn_in e_v268) hx
  · replace h := ifN h hc293
    refine wx_iconst (pc := 606) (dK D_Law_plan_6 10 rfl) ?_
    refine x_goto (pc := 607) (tgt := 611) (dK D_Law_plan_6 11 rfl) rfl ?_
    refine rfE h ?_
    clear h
    intro r269 e_r269 h
    rw [e_r269]
    refine gdE h ?_
    clear h
    intro hk271 h
    refine bnE h ?_
    clear h
    intro p270 e_p270 h
    obtain ⟨yp270, h9, e9⟩ := adE2 h
    clear h
    subst e9
    have h := h9
    clear h9
    have hk1 := Nat.le_trans (bd1 hb) hkt
    have hn1 := Nat.le_trans (bd2 hb) hnt
    replace hb := bdA hb
    refine x_callX (pc := 611) (As := [V 1]) (rest := []) (mc' := p270.2.1) (ms' := p270.2.2) (dK D_Law_plan_6 13 rfl) Q_Law_172 sx_SB_append2 (fitK rfl) (isK_at (Z := (p242.1.2.1, p242.1.2.2)) (ci := 15) hk271) rfl (leK rfl) hk1 hn1 (tg_SB_append2 (inRk rfl) e_p270) (kxR (fun h_p270 => ?_))
    refine x_ldcSw (own := "FlatPlanLaw") (text := " ") (j := 14) rfl (dK D_Law_plan_6 14 rfl) (List.mem_of_getElem? (i := 14) rfl) ?_
    refine rfE h ?_
    clear h
    intro r272 e_r272 h
    rw [e_r272]
    refine gdE h ?_
    clear h
    intro hk274 h
    refine bnE h ?_
    clear h
    intro p273 e_p273 h
    obtain ⟨yp273, h9, e9⟩ := adE2 h
    clear h
    subst e9
    have h := h9
    clear h9
    have hk1 := Nat.le_trans (bd1 hb) hkt
    have hn1 := Nat.le_trans (bd2 hb) hnt
    replace hb := bdA hb
    refine x_callX (pc := 617) (As := [.ref (XB + 14)]) (rest := []) (mc' := p273.2.1) (ms' := p273.2.2) (dK D_Law_plan_6 15 rfl) Q_Law_168 sx_SB_append (fitK rfl) (isK_at (Z := (p270.1.2.1, p270.1.2.2)) (ci := 15) hk274) rfl (leK rfl) hk1 hn1 (tg_SB_append  e_p273) (kxR (fun h_p273 => ?_))
    refine x_aload (pc := 620) (j := 7) (dK D_Law_plan_6 16 rfl) rfl ?_
    refine bnE h ?_
    clear h
    intro v275 e_v275 h
    refine wx_getI (pc := 622) (ci := 11) (f := 2) e_v275 (dK D_Law_plan_6 17 rfl) q_879 (ltK rfl) (ltK rfl) ?_
    refine rfE h ?_
    clear h
    intro r276 e_r276 h
    rw [e_r276]
    refine gdE h ?_
    clear h
    intro hk278 h
    refine bnE h ?_
    clear h
    intro p277 e_p277 h
    obtain ⟨yp277, h9, e9⟩ := adE2 h
    clear h
    subst e9
    have h := h9
    clear h9
    have hk1 := Nat.le_trans (bd1 hb) hkt
    have hn1 := Nat.le_trans (bd2 hb) hnt
    replace hb := bdA hb
    refine x_callX (pc := 625) (As := [V v275]) (rest := []) (mc' := p277.2.1) (ms' := p277.2.2) (dK D_Law_plan_6 18 rfl) Q_Law_172 sx_SB_append2 (fitK rfl) (isK_at (Z := (p273.1.2.1, p273.1.2.2)) (ci := 15) hk278) rfl (leK rfl) hk1 hn1 (tg_SB_append2 (vI_at e_v275).2 e_p277) (kxR (fun h_p277 => ?_))
    refine x_ldcSw (own := "FlatPlanLaw") (text := " ") (j := 14) rfl (dK D_Law_plan_6 19 rfl) (List.mem_of_getElem? (i := 14) rfl) ?_
    refine rfE h ?_
    clear h
    intro r279 e_r279 h
    rw [e_r279]
    refine gdE h ?_
    clear h
    intro hk281 h
    refine bnE h ?_
    clear h
    intro p280 e_p280 h
    obtain ⟨yp280, h9, e9⟩ := adE2 h
    clear h
    subst e9
    have h := h9
    clear h9
    have hk1 := Nat.le_trans (bd1 hb) hkt
    have hn1 := Nat.le_trans (bd2 hb) hnt
    replace hb := bdA hb
    refine x_callX (pc := 631) (As := [.ref (XB + 14)]) (rest := []) (mc' := p280.2.1) (ms' := p280.2.2) (dK D_Law_plan_6 20 rfl) Q_Law_168 sx_SB_append (fitK rfl) (isK_at (Z := (p277.1.2.1, p277.1.2.2)) (ci := 15) hk281) rfl (leK rfl) hk1 hn1 (tg_SB_append  e_p280) (kxR (fun h_p280 => ?_))
    refine x_aload (pc := 634) (j := 7) (dK D_Law_plan_6 21 rfl) rfl ?_
    refine bnE h ?_
    clear h
    intro v282 e_v282 h
    refine wx_getI (pc := 636) (ci := 11) (f := 4) e_v282 (dK D_Law_plan_6 22 rfl) q_885 (ltK rfl) (ltK rfl) ?_
    refine rfE h ?_
    clear h
    intro r283 e_r283 h
    rw [e_r283]
    refine gdE h ?_
    clear h
    intro hk285 h
    refine bnE h ?_
    clear h
    intro p284 e_p284 h
    obtain ⟨yp284, h9, e9⟩ := adE2 h
    clear h
    subst e9
    have h := h9
    clear h9
    have hk1 := Nat.le_trans (bd1 hb) hkt
    have hn1 := Nat.le_trans (bd2 hb) hnt
    replace hb := bdA hb
    refine x_callX (pc := 639) (As := [V v282]) (rest := []) (mc' := p284.2.1) (ms' := p284.2.2) (dK D_Law_plan_6 23 rfl) Q_Law_172 sx_SB_append2 (fitK rfl) (isK_at (Z := (p280.1.2.1, p280.1.2.2)) (ci := 15) hk285) rfl (leK rfl) hk1 hn1 (tg_SB_append2 (vI_at e_v282).2 e_p284) (kxR (fun h_p284 => ?_))
    refine x_ldcSw (own := "FlatPlanLaw") (text := ";") (j := 15) rfl (dK D_Law_plan_6 24 rfl) (List.mem_of_getElem? (i := 15) rfl) ?_
    refine rfE h ?_
    clear h
    intro r286 e_r286 h
    rw [e_r286]
    refine gdE h ?_
    clear h
    intro hk288 h
    refine bnE h ?_
    clear h
    intro p287 e_p287 h
    obtain ⟨yp287, h9, e9⟩ := adE2 h
    clear h
    subst e9
    have h := h9
    clear h9
    have hk1 := Nat.le_trans (bd1 hb) hkt
    have hn1 := Nat.le_trans (bd2 hb) hnt
    replace hb := bdA hb
    refine x_callX (pc := 645) (As := [.ref (XB + 15)]) (rest := []) (mc' := p287.2.1) (ms' := p287.2.2) (dK D_Law_plan_6 25 rfl) Q_Law_168 sx_SB_append (fitK rfl) (isK_at (Z := (p284.1.2.1, p284.1.2.2)) (ci := 15) hk288) rfl (leK rfl) hk1 hn1 (tg_SB_append  e_p287) (kxR (fun h_p287 => ?_))
    refine rfE h ?_
    clear h
    intro r289 e_r289 h
    rw [e_r289]
    refine gdE h ?_
    clear h
    intro hk291 h
    refine bnE h ?_
    clear h
    intro p290 e_p290 h
    obtain ⟨yp290, h9, e9⟩ := adE2 h
    clear h
    subst e9
    have h := h9
    clear h9
    have hk1 := Nat.le_trans (bd1 hb) hkt
    have hn1 := Nat.le_trans (bd2 hb) hnt
    replace hb := bdA hb
    refine x_callX (pc := 648) (As := []) (rest := []) (mc' := p290.2.1) (ms' := p290.2.2) (dK D_Law_plan_6 26 rfl) Q_Law_175 sx_SB_toString (fitK rfl) (isK_at (Z := (p287.1.2.1, p287.1.2.2)) (ci := 15) hk291) rfl (leK rfl) hk1 hn1 (tg_SB_toString  e_p290) (kxR (fun h_p290 => ?_))
    refine x_astoreV (pc := 651) (ls2 := [(5, p290.1.1), (0, .ref c0), (1, .ref (XB + 200)), (2, V a2), (3, V a3), (6, V a6), (7, V a7), (8, .ref c8)]) h_p290 (dK D_Law_plan_6 27 rfl) (ltK rfl) rfl ?_
    refine nmE h ?_
    clear h
    intro v292 e_v292 h
    refine wx_iinc (pc := 653) (j := 5) (a := a6) (z := 1) (ls2 := [(6, V v292), (5, p290.1.1), (0, .ref c0), (1, .ref (XB + 200)), (2, V a2), (3, V a3), (7, V a7), (8, .ref c8)]) (dK D_Law_plan_6 28 rfl) rfl e_v292 (ltK rfl) (by simp [stI, List.filter, cato h_p290]) ?_
    refine x_goto (pc := 656) (tgt := 456) (dK D_Law_plan_6 29 rfl) rfl ?_
    refine x_weak (ls' := [(0, .ref c0), (1, .ref (XB + 200)), (2, V a2), (3, V a3), (5, p290.1.1), (6, V v292)]) (sbc 2 rfl (sbc 3 rfl (sbc 4 rfl (sbc 5 rfl (sbc 1 rfl (sbc 0 rfl sbn)))))) ?_
    replace h := ih _ _ h
    exact h _ _ hb h_p290 (Vn_in e_v292) hx
def lb2_Law_plan_456 (sc : SC) (c0 : Nat) (a2 : Int) (a3 : Int) (go : Value × Int × LZ → Option ((Value × LZ) × Nat × Nat)) (c5 : Value) (a6 : Int) (S : St) (L : List PC) : Option ((Value × LZ) × Nat × Nat) := nm (wr (a3.tdiv 80000)) fun v199 => nm (wr (v199.tmod 4)) fun v200 => if v200 ≤ a6 then (some ((c5, (S, L)), 0, 0)) else (nm (wr ((a2 + 20) + a6)) fun v201 => bnO (gn_Law_pick sc v201 S L) fun p202 => if L.length < 900000000 then adC 1 7 (nw L (11, dfl 11) fun r204 L205 => bnO (gn_LI_init r204 S L205) fun p207 => nm (wr (1 + (p202.tmod 4))) fun v208 => bnO (pf L205 r204 11 0 (V v208)) fun L209 => nm (wr (p202.tdiv 4)) fun v210 => nm (wr (v210.tmod 5)) fun v211 => if v211 = 0 then (jf2_Law_plan_517_456 sc c0 a2 a3 go c5 a6 p202 r204 1 r204 S L209) else (jf2_Law_plan_517_456 sc c0 a2 a3 go c5 a6 p202 r204 0 r204 S L209)) else none)
def lo2_Law_plan_456 (sc : SC) (c0 : Nat) (a2 : Int) (a3 : Int) : Nat → Value × Int × LZ → Option ((Value × LZ) × Nat × Nat) := lp fun go p => lb2_Law_plan_456 sc c0 a2 a3 go p.1 p.2.1 p.2.2.1 p.2.2.2
theorem tl2_Law_plan_456 {sc : SC} {c0 : Nat} {a2 : Int} (ha2 : inR a2) {a3 : Int} (ha3 : inR a3) {K : Option Value → List PC → Prop} {mc ms kt nt : Nat} (hkt : kt ≤ mc) (hnt : nt ≤ ms) : ∀ (N : Nat) (a : Value × Int × LZ) (q : (Value × LZ) × Nat × Nat), lo2_Law_plan_456 sc c0 a2 a3 N a = some q → ∀ k n, Bd k n kt nt q → (a.1 = .null ∨ ∃ b, a.1 = .ref b) → inR a.2.1 → ((q.1.1 = .null ∨ ∃ b, q.1.1 = .ref b) → GX sc M_Law_plan mc ms 659 [(0, .ref c0), (1, .ref (XB + 200)), (2, V a2), (3, V a3), (5, q.1.1)] [] (wz q.1.2) kt nt K) → GX sc M_Law_plan mc ms 456 [(0, .ref c0), (1, .ref (XB + 200)), (2, V a2), (3, V a3), (5, a.1), (6, V a.2.1)] [] (wz a.2.2) k n K := by
  refine lp_ind2 (P := fun (a : Value × Int × LZ) (q : (Value × LZ) × Nat × Nat) => ∀ k n, Bd k n kt nt q → (a.1 = .null ∨ ∃ b, a.1 = .ref b) → inR a.2.1 → ((q.1.1 = .null ∨ ∃ b, q.1.1 = .ref b) → GX sc M_Law_plan mc ms 659 [(0, .ref c0), (1, .ref (XB + 200)), (2, V a2), (3, V a3), (5, q.1.1)] [] (wz q.1.2) kt nt K) → GX sc M_Law_plan mc ms 456 [(0, .ref c0), (1, .ref (XB + 200)), (2, V a2), (3, V a3), (5, a.1), (6, V a.2.1)] [] (wz a.2.2) k n K) (fun go ih a q h => ?_)
  obtain ⟨c5, a6, ⟨S, L⟩⟩ := a
  intro k n hb hc5 ha6 hx
  show GX sc M_Law_plan mc ms 456 [(0, .ref c0), (1, .ref (XB + 200)), (2, V a2), (3, V a3), (5, c5), (6, V a6)] [] (wz (S, L)) k n K
  replace h : lb2_Law_plan_456 sc c0 a2 a3 go c5 a6 S L = some q := h
  unfold lb2_Law_plan_456 at h
  refine x_iload (pc := 456) (j := 5) (dK D_Law_plan_4 31 rfl) rfl ?_
  refine x_iloadn (pc := 458) (i0 := 3) (j := 3) (dK D_Law_plan_4 32 rfl) rfl rfl ?_
  refine wx_ldcw (pc := 459) (y := 80000) (dK D_Law_plan_4 33 rfl) q_1890 rfl ?_
  refine wx_idiv (pc := 462) (dK D_Law_plan_4 34 rfl) ha3 (inRk rfl) (by decide) ?_
  refine wx_iconst (pc := 463) (dK D_Law_plan_4 35 rfl) ?_
  refine nmE h ?_
  clear h
  intro v199 e_v199 h
  refine wsk (st' := [V 4, V v199, V a6]) (congrArg (fun z9 => [V 4, z9, V a6]) (Vn e_v199)) ?_
  refine wx_irem (pc := 464) (dK D_Law_plan_4 36 rfl) (Vn_in e_v199) (inRk rfl) (by decide) ?_
  refine nmE h ?_
  clear h
  intro v200 e_v200 h
  refine wtop e_v200 ?_
  refine wx_icmp_ge (pc := 465) (t := 659) (dK D_Law_plan_4 37 rfl) rfl ha6 (Vn_in e_v200) (fun hc295 => ?_) (fun hc295 => ?_)
  · replace h := ifP h hc295
    obtain rfl := Option.some.inj h
    refine x_weak (ls' := [(0, .ref c0), (1, .ref (XB + 200)), (2, V a2), (3, V a3), (5, c5)]) (sbc 0 rfl (sbc 1 rfl (sbc 2 rfl (sbc 3 rfl (sbc 4 rfl sbn))))) ?_
    refine x_room (bdk hb) (bdn hb) ?_
    exact hx hc5
  · replace h := ifN h hc295
    refine x_aloadn (pc := 468) (i0 := 1) (j := 1) (dK D_Law_plan_4 38 rfl) rfl rfl ?_
    refine x_iloadn (pc := 469) (i0 := 2) (j := 2) (dK D_Law_plan_4 39 rfl) rfl rfl ?_
    refine wx_bipush (pc := 470) (dK D_Law_plan_4 40 rfl) rfl ?_
    refine wx_iadd (pc := 472) (dK D_Law_plan_4 41 rfl) ?_
    refine x_iload (pc := 473) (j := 5) (dK D_Law_plan_4 42 rfl) rfl ?_
    refine wx_iadd (pc := 475) (dK D_Law_plan_4 43 rfl) ?_
    refine nmE h ?_
    clear h
    intro v201 e_v201 h
    refine wtop e_v201 ?_
    refine bnE h ?_
    clear h
    intro p202 e_p202 h
    refine x_callS (pc := 476) (As := [.ref (XB + 200), V v201]) (rest := []) (mc' := 0) (ms' := 0) (dK D_Law_plan_4 44 rfl) Q_Law_362 (fitK rfl) rfl (leK rfl) (Nat.le_trans (bdk hb) hkt) (Nat.le_trans (bdn hb) hnt) (tg_Law_pick (Vn_in e_v201) e_p202) (kxI' (fun h_p202 => ?_))
    refine x_istore (pc := 479) (ls2 := [(7, V p202), (0, .ref c0), (1, .ref (XB + 200)), (2, V a2), (3, V a3), (5, c5), (6, V a6)]) (dK D_Law_plan_4 45 rfl) (ltK rfl) rfl ?_
    refine gdE h ?_
    clear h
    intro hl203 h
    obtain ⟨y206, h9, e9⟩ := adE2 h
    clear h
    subst e9
    have h := h9
    clear h9
    refine nwE h ?_
    clear h
    intro r204 L205 e_r204 e_L205 h
    have hk1 := Nat.le_trans (bd1 hb) hkt
    have hn1 := Nat.le_trans (bd2 hb) hnt
    replace hb := bdA hb
    refine wn_new (Z := (S, L)) (pc := 481) (ci := 11) (N := 7) e_r204 e_L205 hl203 rfl (dK D_Law_plan_4 46 rfl) (ltK rfl) q_1033 q_867 q_38 hk1 hn1 ?_
    refine x_dup (pc := 484) (dK D_Law_plan_4 47 rfl) rfl ?_
    refine bnE h ?_
    clear h
    intro p207 e_p207 h
    refine x_callIN (pc := 485) (As := []) (rest := [.ref r204]) (mc' := 0) (ms' := 0) (dK D_Law_plan_4 48 rfl) Q_Law_376 (fitK rfl) rfl (leK rfl) (Nat.le_trans (bdk hb) hkt) (Nat.le_trans (bdn hb) hnt) (tg_LI_init  e_p207) (kxU ?_)
    refine x_astore (pc := 488) (ls2 := [(8, .ref r204), (7, V p202), (0, .ref c0), (1, .ref (XB + 200)), (2, V a2), (3, V a3), (5, c5), (6, V a6)]) (dK D_Law_plan_4 49 rfl) (ltK rfl) rfl ?_
    refine x_aload (pc := 490) (j := 0) (dK D_Law_plan_5 0 rfl) rfl ?_
    refine wx_iconst (pc := 492) (dK D_Law_plan_5 1 rfl) ?_
    refine x_iload (pc := 493) (j := 1) (dK D_Law_plan_5 2 rfl) rfl ?_
    refine wx_iconst (pc := 495) (dK D_Law_plan_5 3 rfl) ?_
    refine wx_irem (pc := 496) (dK D_Law_plan_5 4 rfl) h_p202 (inRk rfl) (by decide) ?_
    refine wx_iadd (pc := 497) (dK D_Law_plan_5 5 rfl) ?_
    refine nmE h ?_
    clear h
    intro v208 e_v208 h
    refine wtop e_v208 ?_
    refine bnE h ?_
    clear h
    intro L209 e_L209 h
    refine wx_put (Z := (S, L205)) (pc := 498) (ci := 11) (f := 0) e_L209 (dK D_Law_plan_5 6 rfl) q_874 (ltK rfl) (ltK rfl) rfl okInt ?_
    refine x_aload (pc := 501) (j := 0) (dK D_Law_plan_5 7 rfl) rfl ?_
    refine x_iload (pc := 503) (j := 1) (dK D_Law_plan_5 8 rfl) rfl ?_
    refine wx_iconst (pc := 505) (dK D_Law_plan_5 9 rfl) ?_
    refine wx_idiv (pc := 506) (dK D_Law_plan_5 10 rfl) h_p202 (inRk rfl) (by decide) ?_
    refine wx_iconst (pc := 507) (dK D_Law_plan_5 11 rfl) ?_
    refine nmE h ?_
    clear h
    intro v210 e_v210 h
    refine wsk (st' := [V 5, V v210, .ref r204]) (congrArg (fun z9 => [V 5, z9, .ref r204]) (Vn e_v210)) ?_
    refine wx_irem (pc := 508) (dK D_Law_plan_5 12 rfl) (Vn_in e_v210) (inRk rfl) (by decide) ?_
    refine nmE h ?_
    clear h
    intro v211 e_v211 h
    refine wtop e_v211 ?_
    refine wx_if_ne (pc := 509) (t := 516) (dK D_Law_plan_5 13 rfl) rfl (Vn_in e_v211) (fun hc294 => ?_) (fun hc294 => ?_)
    · replace h := ifN h hc294
      refine wx_iconst (pc := 516) (dK D_Law_plan_5 16 rfl) ?_
      refine x_weak (ls' := [(0, .ref c0), (1, .ref (XB + 200)), (2, V a2), (3, V a3), (5, c5), (6, V a6), (7, V p202), (8, .ref r204)]) (sbc 2 rfl (sbc 3 rfl (sbc 4 rfl (sbc 5 rfl (sbc 6 rfl (sbc 7 rfl (sbc 1 rfl (sbc 0 rfl sbn)))))))) ?_
      exact tj2_Law_plan_517_456 ha2 ha3 hkt hnt ih hc5 ha6 h_p202 (inRk rfl) h hb hx
    · replace h := ifP h hc294
      refine wx_iconst (pc := 512) (dK D_Law_plan_5 14 rfl) ?_
      refine x_goto (pc := 513) (tgt := 517) (dK D_Law_plan_5 15 rfl) rfl ?_
      refine x_weak (ls' := [(0, .ref c0), (1, .ref (XB + 200)), (2, V a2), (3, V a3), (5, c5), (6, V a6), (7, V p202), (8, .ref r204)]) (sbc 2 rfl (sbc 3 rfl (sbc 4 rfl (sbc 5 rfl (sbc 6 rfl (sbc 7 rfl (sbc 1 rfl (sbc 0 rfl sbn)))))))) ?_
      exact tj2_Law_plan_517_456 ha2 ha3 hkt hnt ih hc5 ha6 h_p202 (inRk rfl) h hb hx
def lb2_Law_plan_662 (sc : SC) (c0 : Nat) (a2 : Int) (a3 : Int) (go : Value × Int × LZ → Option ((Value × LZ) × Nat × Nat)) (c5 : Value) (a6 : Int) (S : St) (L : List PC) : Option ((Value × LZ) × Nat × Nat) := nm (wr (a3.tdiv 320000)) fun v297 => nm (wr (1 + (v297.tmod 5))) fun v298 => if v298 ≤ a6 then (some ((c5, (S, L)), 0, 0)) else (if L.length < 900000000 then adC 1 7 (nw L (11, dfl 11) fun r300 L301 => bnO (gn_LI_init r300 S L301) fun p303 => nm (wr ((a2 + 25) + a6)) fun v304 => bnO (gn_Law_pick sc v304 S L301) fun p305 => bnO (pf L301 r300 11 0 (V (i_shl 1 (p305.tmod 3)))) fun L306 => bnO (gfV L306 c0 12 6) fun v307 => rfB v307 fun r308 => if isK L306 r308 13 = true then (bnO (gn_AL_add r308 (.ref r300) S L306) fun p309 => adC p309.2.1 p309.2.2 (if p309.1.2.2.length < 900000000 then adC 1 4 (nw p309.1.2.2 (15, dfl 15) fun r312 L313 => bnO (gn_SB_init r312 p309.1.2.1 L313) fun p315 => adC p315.2.1 p315.2.2 (rfB c5 fun r316 => if isK p315.1.2 r312 15 = true then (bnO (gn_SB_append r312 r316 p315.1.1 p315.1.2) fun p317 => adC p317.2.1 p317.2.2 (rfB p317.1.1 fun r319 => if isK p317.1.2.2 r319 15 = true then (bnO (gn_SB_append r319 (XB + 20) p317.1.2.1 p317.1.2.2) fun p320 => adC p320.2.1 p320.2.2 (bnO (gfI p320.1.2.2 r300 11 0) fun v322 => rfB p320.1.1 fun r323 => if isK p320.1.2.2 r323 15 = true then (bnO (gn_SB_append2 r323 v322 p320.1.2.1 p320.1.2.2) fun p324 => adC p324.2.1 p324.2.2 (rfB p324.1.1 fun r326 => if isK p324.1.2.2 r326 15 = true then (bnO (gn_SB_append r326 (XB + 15) p324.1.2.1 p324.1.2.2) fun p327 => adC p327.2.1 p327.2.2 (rfB p327.1.1 fun r329 => if isK p327.1.2.2 r329 15 = true then (bnO (gn_SB_toString r329 p327.1.2.1 p327.1.2.2) fun p330 => adC p330.2.1 p330.2.2 (nm (wr (a6 + 1)) fun v332 => go (p330.1.1, v332, (p330.1.2.1, p330.1.2.2)))) else none)) else none)) else none)) else none)) else none)) else none)) else none) else none)
def lo2_Law_plan_662 (sc : SC) (c0 : Nat) (a2 : Int) (a3 : Int) : Nat → Value × Int × LZ → Option ((Value × LZ) × Nat × Nat) := lp fun go p => lb2_Law_plan_662 sc c0 a2 a3 go p.1 p.2.1 p.2.2.1 p.2.2.2
theorem tl2_Law_plan_662 {sc : SC} {c0 : Nat} {a2 : Int} (ha2 : inR a2) {a3 : Int} (ha3 : inR a3) {K : Option Value → List PC → Prop} {mc ms kt nt : Nat} (hkt : kt ≤ mc) (hnt : nt ≤ ms) : ∀ (N : Nat) (a : Value × Int × LZ) (q : (Value × LZ) × Nat × Nat), lo2_Law_plan_662 sc c0 a2 a3 N a = some q → ∀ k n, Bd k n kt nt q → (a.1 = .null ∨ ∃ b, a.1 = .ref b) → inR a.2.1 → ((q.1.1 = .null ∨ ∃ b, q.1.1 = .ref b) → GX sc M_Law_plan mc ms 758 [(0, .ref c0), (1, .ref (XB + 200)), (2, V a2), (5, q.1.1)] [] (wz q.1.2) kt nt K) → GX sc M_Law_plan mc ms 662 [(0, .ref c0), (1, .ref (XB + 200)), (2, V a2), (3, V a3), (5, a.1), (6, V a.2.1)] [] (wz a.2.2) k n K := by
  refine lp_ind2 (P := fun (a : Value × Int × LZ) (q : (Value × LZ) × Nat × Nat) => ∀ k n, Bd k n kt nt q → (a.1 = .null ∨ ∃ b, a.1 = .ref b) → inR a.2.1 → ((q.1.1 = .null ∨ ∃ b, q.1.1 = .ref b) → GX sc M_Law_plan mc ms 758 [(0, .ref c0), (1, .ref (XB + 200)), (2, V a2), (5, q.1.1)] [] (wz q.1.2) kt nt K) → GX sc M_Law_plan mc ms 662 [(0, .ref c0), (1, .ref (XB + 200)), (2, V a2), (3, V a3), (5, a.1), (6, V a.2.1)] [] (wz a.2.2) k n K) (fun go ih a q h => ?_)
  obtain ⟨c5, a6, ⟨S, L⟩⟩ := a
  intro k n hb hc5 ha6 hx
  show GX sc M_Law_plan mc ms 662 [(0, .ref c0), (1, .ref (XB + 200)), (2, V a2), (3, V a3), (5, c5), (6, V a6)] [] (wz (S, L)) k n K
  replace h : lb2_Law_plan_662 sc c0 a2 a3 go c5 a6 S L = some q := h
  unfold lb2_Law_plan_662 at h
  refine x_iload (pc := 662) (j := 5) (dK D_Law_plan_6 32 rfl) rfl ?_
  refine wx_iconst (pc := 664) (dK D_Law_plan_6 33 rfl) ?_
  refine x_iloadn (pc := 665) (i0 := 3) (j := 3) (dK D_Law_plan_6 34 rfl) rfl rfl ?_
  refine wx_ldcw (pc := 666) (y := 320000) (dK D_Law_plan_6 35 rfl) q_1892 rfl ?_
  refine wx_idiv (pc := 669) (dK D_Law_plan_6 36 rfl) ha3 (inRk rfl) (by decide) ?_
  refine wx_iconst (pc := 670) (dK D_Law_plan_6 37 rfl) ?_
  refine nmE h ?_
  clear h
  intro v297 e_v297 h
  refine wsk (st' := [V 5, V v297, V 1, V a6]) (congrArg (fun z9 => [V 5, z9, V 1, V a6]) (Vn e_v297)) ?_
  refine wx_irem (pc := 671) (dK D_Law_plan_6 38 rfl) (Vn_in e_v297) (inRk rfl) (by decide) ?_
  refine wx_iadd (pc := 672) (dK D_Law_plan_6 39 rfl) ?_
  refine nmE h ?_
  clear h
  intro v298 e_v298 h
  refine wtop e_v298 ?_
  refine wx_icmp_ge (pc := 673) (t := 758) (dK D_Law_plan_6 40 rfl) rfl ha6 (Vn_in e_v298) (fun hc333 => ?_) (fun hc333 => ?_)
  · replace h := ifP h hc333
    obtain rfl := Option.some.inj h
    refine x_weak (ls' := [(0, .ref c0), (1, .ref (XB + 200)), (2, V a2), (5, c5)]) (sbc 0 rfl (sbc 1 rfl (sbc 2 rfl (sbc 4 rfl sbn)))) ?_
    refine x_room (bdk hb) (bdn hb) ?_
    exact hx hc5
  · replace h := ifN h hc333
    refine gdE h ?_
    clear h
    intro hl299 h
    obtain ⟨y302, h9, e9⟩ := adE2 h
    clear h
    subst e9
    have h := h9
    clear h9
    refine nwE h ?_
    clear h
    intro r300 L301 e_r300 e_L301 h
    have hk1 := Nat.le_trans (bd1 hb) hkt
    have hn1 := Nat.le_trans (bd2 hb) hnt
    replace hb := bdA hb
    refine wn_new (Z := (S, L)) (pc := 676) (ci := 11) (N := 7) e_r300 e_L301 hl299 rfl (dK D_Law_plan_6 41 rfl) (ltK rfl) q_1033 q_867 q_38 hk1 hn1 ?_
    refine x_dup (pc := 679) (dK D_Law_plan_6 42 rfl) rfl ?_
    refine bnE h ?_
    clear h
    intro p303 e_p303 h
    refine x_callIN (pc := 680) (As := []) (rest := [.ref r300]) (mc' := 0) (ms' := 0) (dK D_Law_plan_6 43 rfl) Q_Law_376 (fitK rfl) rfl (leK rfl) (Nat.le_trans (bdk hb) hkt) (Nat.le_trans (bdn hb) hnt) (tg_LI_init  e_p303) (kxU ?_)
    refine x_astore (pc := 683) (ls2 := [(7, .ref r300), (0, .ref c0), (1, .ref (XB + 200)), (2, V a2), (3, V a3), (5, c5), (6, V a6)]) (dK D_Law_plan_6 44 rfl) (ltK rfl) rfl ?_
    refine x_aload (pc := 685) (j := 0) (dK D_Law_plan_6 45 rfl) rfl ?_
    refine wx_iconst (pc := 687) (dK D_Law_plan_6 46 rfl) ?_
    refine x_aloadn (pc := 688) (i0 := 1) (j := 2) (dK D_Law_plan_6 47 rfl) rfl rfl ?_
    refine x_iloadn (pc := 689) (i0 := 2) (j := 3) (dK D_Law_plan_6 48 rfl) rfl rfl ?_
    refine wx_bipush (pc := 690) (dK D_Law_plan_6 49 rfl) rfl ?_
    refine wx_iadd (pc := 692) (dK D_Law_plan_7 0 rfl) ?_
    refine x_iload (pc := 693) (j := 6) (dK D_Law_plan_7 1 rfl) rfl ?_
    refine wx_iadd (pc := 695) (dK D_Law_plan_7 2 rfl) ?_
    refine nmE h ?_
    clear h
    intro v304 e_v304 h
    refine wtop e_v304 ?_
    refine bnE h ?_
    clear h
    intro p305 e_p305 h
    refine x_callS (pc := 696) (As := [.ref (XB + 200), V v304]) (rest := [V 1, .ref r300]) (mc' := 0) (ms' := 0) (dK D_Law_plan_7 3 rfl) Q_Law_362 (fitK rfl) rfl (leK rfl) (Nat.le_trans (bdk hb) hkt) (Nat.le_trans (bdn hb) hnt) (tg_Law_pick (Vn_in e_v304) e_p305) (kxI' (fun h_p305 => ?_))
    refine wx_iconst (pc := 699) (dK D_Law_plan_7 4 rfl) ?_
    refine wx_irem (pc := 700) (dK D_Law_plan_7 5 rfl) h_p305 (inRk rfl) (by decide) ?_
    refine wx_ishl (pc := 701) (dK D_Law_plan_7 6 rfl) ?_
    refine bnE h ?_
    clear h
    intro L306 e_L306 h
    refine wx_put (Z := (S, L301)) (pc := 702) (ci := 11) (f := 0) e_L306 (dK D_Law_plan_7 7 rfl) q_874 (ltK rfl) (ltK rfl) rfl okInt ?_
    refine x_aloadn (pc := 705) (i0 := 0) (j := 1) (dK D_Law_plan_7 8 rfl) rfl rfl ?_
    refine bnE h ?_
    clear h
    intro v307 e_v307 h
    refine wx_getV (pc := 706) (ci := 12) (f := 6) e_v307 (dK D_Law_plan_7 9 rfl) q_780 (ltK rfl) (ltK rfl) (fun hv307 => ?_)
    refine x_aload (pc := 709) (j := 0) (dK D_Law_plan_7 10 rfl) rfl ?_
    refine rfE h ?_
    clear h
    intro r308 e_r308 h
    rw [e_r308]
    refine gdE h ?_
    clear h
    intro hk310 h
    refine bnE h ?_
    clear h
    intro p309 e_p309 h
    obtain ⟨yp309, h9, e9⟩ := adE2 h
    clear h
    subst e9
    have h := h9
    clear h9
    have hk1 := Nat.le_trans (bd1 hb) hkt
    have hn1 := Nat.le_trans (bd2 hb) hnt
    replace hb := bdA hb
    refine x_callX (pc := 711) (As := [.ref r300]) (rest := []) (mc' := p309.2.1) (ms' := p309.2.2) (dK D_Law_plan_7 11 rfl) Q_Law_378 sx_AL_add (fitK rfl) (isK_at (Z := (S, L306)) (ci := 13) hk310) rfl (leK rfl) hk1 hn1 (tg_AL_add (.inr ⟨_, rfl⟩) e_p309) (kxB' ?_)
    refine x_pop (pc := 714) (dK D_Law_plan_7 12 rfl) rfl ?_
    refine gdE h ?_
    clear h
    intro hl311 h
    obtain ⟨y314, h9, e9⟩ := adE2 h
    clear h
    subst e9
    have h := h9
    clear h9
    refine nwE h ?_
    clear h
    intro r312 L313 e_r312 e_L313 h
    have hk1 := Nat.le_trans (bd1 hb) hkt
    have hn1 := Nat.le_trans (bd2 hb) hnt
    replace hb := bdA hb
    refine wn_new (Z := (p309.1.2.1, p309.1.2.2)) (pc := 715) (ci := 15) (N := 4) e_r312 e_L313 hl311 rfl (dK D_Law_plan_7 13 rfl) (ltK rfl) q_1275 q_1276 q_33 hk1 hn1 ?_
    refine x_dup (pc := 718) (dK D_Law_plan_7 14 rfl) rfl ?_
    refine bnE h ?_
    clear h
    intro p315 e_p315 h
    obtain ⟨yp315, h9, e9⟩ := adE2 h
    clear h
    subst e9
    have h := h9
    clear h9
    have hk1 := Nat.le_trans (bd1 hb) hkt
    have hn1 := Nat.le_trans (bd2 hb) hnt
    replace hb := bdA hb
    refine x_callI (pc := 719) (As := []) (rest := [.ref r312]) (mc' := p315.2.1) (ms' := p315.2.2) (dK D_Law_plan_7 15 rfl) Q_Law_165 (fitK rfl) rfl (leK rfl) hk1 hn1 (tg_SB_init  e_p315) (kxU ?_)
    refine x_aloadV (pc := 722) (j := 5) hc5 (dK D_Law_plan_7 16 rfl) rfl ?_
    refine rfE h ?_
    clear h
    intro r316 e_r316 h
    rw [e_r316]
    refine gdE h ?_
    clear h
    intro hk318 h
    refine bnE h ?_
    clear h
    intro p317 e_p317 h
    obtain ⟨yp317, h9, e9⟩ := adE2 h
    clear h
    subst e9
    have h := h9
    clear h9
    have hk1 := Nat.le_trans (bd1 hb) hkt
    have hn1 := Nat.le_trans (bd2 hb) hnt
    replace hb := bdA hb
    refine x_callX (pc := 724) (As := [.ref r316]) (rest := []) (mc' := p317.2.1) (ms' := p317.2.2) (dK D_Law_plan_7 17 rfl) Q_Law_168 sx_SB_append (fitK rfl) (isK_at (Z := (p315.1.1, p315.1.2)) (ci := 15) hk318) rfl (leK rfl) hk1 hn1 (tg_SB_append  e_p317) (kxR (fun h_p317 => ?_))
    refine x_ldcSw (own := "FlatPlanLaw") (text := "standby ") (j := 20) rfl (dK D_Law_plan_7 18 rfl) (List.mem_of_getElem? (i := 20) rfl) ?_
    refine rfE h ?_
    clear h
    intro r319 e_r319 h
    rw [e_r319]
    refine gdE h ?_
    clear h
    intro hk321 h
    refine bnE h ?_
    clear h
    intro p320 e_p320 h
    obtain ⟨yp320, h9, e9⟩ := adE2 h
    clear h
    subst e9
    have h := h9
    clear h9
    have hk1 := Nat.le_trans (bd1 hb) hkt
    have hn1 := Nat.le_trans (bd2 hb) hnt
    replace hb := bdA hb
    refine x_callX (pc := 730) (As := [.ref (XB + 20)]) (rest := []) (mc' := p320.2.1) (ms' := p320.2.2) (dK D_Law_plan_7 19 rfl) Q_Law_168 sx_SB_append (fitK rfl) (isK_at (Z := (p317.1.2.1, p317.1.2.2)) (ci := 15) hk321) rfl (leK rfl) hk1 hn1 (tg_SB_append  e_p320) (kxR (fun h_p320 => ?_))
    refine x_aload (pc := 733) (j := 0) (dK D_Law_plan_7 20 rfl) rfl ?_
    refine bnE h ?_
    clear h
    intro v322 e_v322 h
    refine wx_getI (pc := 735) (ci := 11) (f := 0) e_v322 (dK D_Law_plan_7 21 rfl) q_874 (ltK rfl) (ltK rfl) ?_
    refine rfE h ?_
    clear h
    intro r323 e_r323 h
    rw [e_r323]
    refine gdE h ?_
    clear h
    intro hk325 h
    refine bnE h ?_
    clear h
    intro p324 e_p324 h
    obtain ⟨yp324, h9, e9⟩ := adE2 h
    clear h
    subst e9
    have h := h9
    clear h9
    have hk1 := Nat.le_trans (bd1 hb) hkt
    have hn1 := Nat.le_trans (bd2 hb) hnt
    replace hb := bdA hb
    refine x_callX (pc := 738) (As := [V v322]) (rest := []) (mc' := p324.2.1) (ms' := p324.2.2) (dK D_Law_plan_7 22 rfl) Q_Law_172 sx_SB_append2 (fitK rfl) (isK_at (Z := (p320.1.2.1, p320.1.2.2)) (ci := 15) hk325) rfl (leK rfl) hk1 hn1 (tg_SB_append2 (vI_at e_v322).2 e_p324) (kxR (fun h_p324 => ?_))
    refine x_ldcSw (own := "FlatPlanLaw") (text := ";") (j := 15) rfl (dK D_Law_plan_7 23 rfl) (List.mem_of_getElem? (i := 15) rfl) ?_
    refine rfE h ?_
    clear h
    intro r326 e_r326 h
    rw [e_r326]
    refine gdE h ?_
    clear h
    intro hk328 h
    refine bnE h ?_
    clear h
    intro p327 e_p327 h
    obtain ⟨yp327, h9, e9⟩ := adE2 h
    clear h
    subst e9
    have h := h9
    clear h9
    have hk1 := Nat.le_trans (bd1 hb) hkt
    have hn1 := Nat.le_trans (bd2 hb) hnt
    replace hb := bdA hb
    refine x_callX (pc := 744) (As := [.ref (XB + 15)]) (rest := []) (mc' := p327.2.1) (ms' := p327.2.2) (dK D_Law_plan_7 24 rfl) Q_Law_168 sx_SB_append (fitK rfl) (isK_at (Z := (p324.1.2.1, p324.1.2.2)) (ci := 15) hk328) rfl (leK rfl) hk1 hn1 (tg_SB_append  e_p327) (kxR (fun h_p327 => ?_))
    refine rfE h ?_
    clear h
    intro r329 e_r329 h
    rw [e_r329]
    refine gdE h ?_
    clear h
    intro hk331 h
    refine bnE h ?_
    clear h
    intro p330 e_p330 h
    obtain ⟨yp330, h9, e9⟩ := adE2 h
    clear h
    subst e9
    have h := h9
    clear h9
    have hk1 := Nat.le_trans (bd1 hb) hkt
    have hn1 := Nat.le_trans (bd2 hb) hnt
    replace hb := bdA hb
    refine x_callX (pc := 747) (As := []) (rest := []) (mc' := p330.2.1) (ms' := p330.2.2) (dK D_Law_plan_7 25 rfl) Q_Law_175 sx_SB_toString (fitK rfl) (isK_at (Z := (p327.1.2.1, p327.1.2.2)) (ci := 15) hk331) rfl (leK rfl) hk1 hn1 (tg_SB_toString  e_p330) (kxR (fun h_p330 => ?_))
    refine x_astoreV (pc := 750) (ls2 := [(5, p330.1.1), (7, .ref r300), (0, .ref c0), (1, .ref (XB + 200)), (2, V a2), (3, V a3), (6, V a6)]) h_p330 (dK D_Law_plan_7 26 rfl) (ltK rfl) rfl ?_
    refine nmE h ?_
    clear h
    intro v332 e_v332 h
    refine wx_iinc (pc := 752) (j := 6) (a := a6) (z := 1) (ls2 := [(6, V v332), (5, p330.1.1), (7, .ref r300), (0, .ref c0), (1, .ref (XB + 200)), (2, V a2), (3, V a3)]) (dK D_Law_plan_7 27 rfl) rfl e_v332 (ltK rfl) (by simp [stI, List.filter, cato h_p330]) ?_
    refine x_goto (pc := 755) (tgt := 662) (dK D_Law_plan_7 28 rfl) rfl ?_
    refine x_weak (ls' := [(0, .ref c0), (1, .ref (XB + 200)), (2, V a2), (3, V a3), (5, p330.1.1), (6, V v332)]) (sbc 3 rfl (sbc 4 rfl (sbc 5 rfl (sbc 6 rfl (sbc 1 rfl (sbc 0 rfl sbn)))))) ?_
    replace h := ih _ _ h
    exact h _ _ hb h_p330 (Vn_in e_v332) hx
def lb2_Law_plan_761 (sc : SC) (c0 : Nat) (a2 : Int) (go : Value × Int × LZ → Option ((Value × LZ) × Nat × Nat)) (c5 : Value) (a6 : Int) (S : St) (L : List PC) : Option ((Value × LZ) × Nat × Nat) := if 3 ≤ a6 then (some ((c5, (S, L)), 0, 0)) else (nm (wr ((a2 + 31) + a6)) fun v335 => bnO (gn_Law_pick sc v335 S L) fun p336 => nm (wr (p336.tmod 3)) fun v337 => if v337 = 0 then (nm (wr (a6 + 1)) fun v382 => go (c5, v382, (S, L))) else (bnO (gfV L c0 12 9) fun v338 => bnO (gfI L c0 12 0) fun v339 => nm (wr (2 * v339)) fun v340 => nm (wr (p336.tdiv 3)) fun v341 => if 0 < v340 then (nm (wr (p336.tdiv 24)) fun v343 => nm (wr (1 + (v343.tmod 30))) fun v344 => nm (wr (v341.tmod v340)) fun v345 => rfB v338 fun r346 => bnO (ast L 100 r346 v345 (V v344)) fun L347 => if L347.length < 900000000 then adC 1 4 (nw L347 (15, dfl 15) fun r349 L350 => bnO (gn_SB_init r349 S L350) fun p352 => adC p352.2.1 p352.2.2 (rfB c5 fun r353 => if isK p352.1.2 r349 15 = true then (bnO (gn_SB_append r349 r353 p352.1.1 p352.1.2) fun p354 => adC p354.2.1 p354.2.2 (rfB p354.1.1 fun r356 => if isK p354.1.2.2 r356 15 = true then (bnO (gn_SB_append r356 (XB + 21) p354.1.2.1 p354.1.2.2) fun p357 => adC p357.2.1 p357.2.2 (bnO (gfI p357.1.2.2 c0 12 0) fun v359 => nm (wr (2 * v359)) fun v360 => nm (wr (p336.tdiv 3)) fun v361 => if 0 < v360 then (nm (wr (v361.tmod v360)) fun v363 => rfB p357.1.1 fun r364 => if isK p357.1.2.2 r364 15 = true then (bnO (gn_SB_append2 r364 v363 p357.1.2.1 p357.1.2.2) fun p365 => adC p365.2.1 p365.2.2 (rfB p365.1.1 fun r367 => if isK p365.1.2.2 r367 15 = true then (bnO (gn_SB_append r367 (XB + 14) p365.1.2.1 p365.1.2.2) fun p368 => adC p368.2.1 p368.2.2 (nm (wr (p336.tdiv 24)) fun v370 => nm (wr (1 + (v370.tmod 30))) fun v371 => rfB p368.1.1 fun r372 => if isK p368.1.2.2 r372 15 = true then (bnO (gn_SB_append2 r372 v371 p368.1.2.1 p368.1.2.2) fun p373 => adC p373.2.1 p373.2.2 (rfB p373.1.1 fun r375 => if isK p373.1.2.2 r375 15 = true then (bnO (gn_SB_append r375 (XB + 15) p373.1.2.1 p373.1.2.2) fun p376 => adC p376.2.1 p376.2.2 (rfB p376.1.1 fun r378 => if isK p376.1.2.2 r378 15 = true then (bnO (gn_SB_toString r378 p376.1.2.1 p376.1.2.2) fun p379 => adC p379.2.1 p379.2.2 (nm (wr (a6 + 1)) fun v381 => go (p379.1.1, v381, (p379.1.2.1, p379.1.2.2)))) else none)) else none)) else none)) else none)) else none) else none)) else none)) else none)) else none) else none))
def lo2_Law_plan_761 (sc : SC) (c0 : Nat) (a2 : Int) : Nat → Value × Int × LZ → Option ((Value × LZ) × Nat × Nat) := lp fun go p => lb2_Law_plan_761 sc c0 a2 go p.1 p.2.1 p.2.2.1 p.2.2.2
theorem tl2_Law_plan_761 {sc : SC} {c0 : Nat} {a2 : Int} (ha2 : inR a2) {K : Option Value → List PC → Prop} {mc ms kt nt : Nat} (hkt : kt ≤ mc) (hnt : nt ≤ ms) : ∀ (N : Nat) (a : Value × Int × LZ) (q : (Value × LZ) × Nat × Nat), lo2_Law_plan_761 sc c0 a2 N a = some q → ∀ k n, Bd k n kt nt q → (a.1 = .null ∨ ∃ b, a.1 = .ref b) → inR a.2.1 → ((q.1.1 = .null ∨ ∃ b, q.1.1 = .ref b) → GX sc M_Law_plan mc ms 884 [(0, .ref c0), (1, .ref (XB + 200)), (2, V a2), (5, q.1.1)] [] (wz q.1.2) kt nt K) → GX sc M_Law_plan mc ms 761 [(0, .ref c0), (1, .ref (XB + 200)), (2, V a2), (5, a.1), (6, V a.2.1)] [] (wz a.2.2) k n K := by
  refine lp_ind2 (P := fun (a : Value × Int × LZ) (q : (Value × LZ) × Nat × Nat) => ∀ k n, Bd k n kt nt q → (a.1 = .null ∨ ∃ b, a.1 = .ref b) → inR a.2.1 → ((q.1.1 = .null ∨ ∃ b, q.1.1 = .ref b) → GX sc M_Law_plan mc ms 884 [(0, .ref c0), (1, .ref (XB + 200)), (2, V a2), (5, q.1.1)] [] (wz q.1.2) kt nt K) → GX sc M_Law_plan mc ms 761 [(0, .ref c0), (1, .ref (XB + 200)), (2, V a2), (5, a.1), (6, V a.2.1)] [] (wz a.2.2) k n K) (fun go ih a q h => ?_)
  obtain ⟨c5, a6, ⟨S, L⟩⟩ := a
  intro k n hb hc5 ha6 hx
  show GX sc M_Law_plan mc ms 761 [(0, .ref c0), (1, .ref (XB + 200)), (2, V a2), (5, c5), (6, V a6)] [] (wz (S, L)) k n K
  replace h : lb2_Law_plan_761 sc c0 a2 go c5 a6 S L = some q := h
  unfold lb2_Law_plan_761 at h
  refine x_iload (pc := 761) (j := 4) (dK D_Law_plan_7 31 rfl) rfl ?_
  refine wx_iconst (pc := 763) (dK D_Law_plan_7 32 rfl) ?_
  refine wx_icmp_ge (pc := 764) (t := 884) (dK D_Law_plan_7 33 rfl) rfl ha6 (inRk rfl) (fun hc384 => ?_) (fun hc384 => ?_)
  · replace h := ifP h hc384
    obtain rfl := Option.some.inj h
    refine x_weak (ls' := [(0, .ref c0), (1, .ref (XB + 200)), (2, V a2), (5, c5)]) (sbc 0 rfl (sbc 1 rfl (sbc 2 rfl (sbc 3 rfl sbn)))) ?_
    refine x_room (bdk hb) (bdn hb) ?_
    exact hx hc5
  · replace h := ifN h hc384
    refine x_aloadn (pc := 767) (i0 := 1) (j := 1) (dK D_Law_plan_7 34 rfl) rfl rfl ?_
    refine x_iloadn (pc := 768) (i0 := 2) (j := 2) (dK D_Law_plan_7 35 rfl) rfl rfl ?_
    refine wx_bipush (pc := 769) (dK D_Law_plan_7 36 rfl) rfl ?_
    refine wx_iadd (pc := 771) (dK D_Law_plan_7 37 rfl) ?_
    refine x_iload (pc := 772) (j := 4) (dK D_Law_plan_7 38 rfl) rfl ?_
    refine wx_iadd (pc := 774) (dK D_Law_plan_7 39 rfl) ?_
    refine nmE h ?_
    clear h
    intro v335 e_v335 h
    refine wtop e_v335 ?_
    refine bnE h ?_
    clear h
    intro p336 e_p336 h
    refine x_callS (pc := 775) (As := [.ref (XB + 200), V v335]) (rest := []) (mc' := 0) (ms' := 0) (dK D_Law_plan_7 40 rfl) Q_Law_362 (fitK rfl) rfl (leK rfl) (Nat.le_trans (bdk hb) hkt) (Nat.le_trans (bdn hb) hnt) (tg_Law_pick (Vn_in e_v335) e_p336) (kxI' (fun h_p336 => ?_))
    refine x_istore (pc := 778) (ls2 := [(7, V p336), (0, .ref c0), (1, .ref (XB + 200)), (2, V a2), (5, c5), (6, V a6)]) (dK D_Law_plan_7 41 rfl) (ltK rfl) rfl ?_
    refine x_iload (pc := 780) (j := 0) (dK D_Law_plan_7 42 rfl) rfl ?_
    refine wx_iconst (pc := 782) (dK D_Law_plan_7 43 rfl) ?_
    refine wx_irem (pc := 783) (dK D_Law_plan_7 44 rfl) h_p336 (inRk rfl) (by decide) ?_
    refine nmE h ?_
    clear h
    intro v337 e_v337 h
    refine wtop e_v337 ?_
    refine wx_if_ne (pc := 784) (t := 790) (dK D_Law_plan_7 45 rfl) rfl (Vn_in e_v337) (fun hc383 => ?_) (fun hc383 => ?_)
    · replace h := ifN h hc383
      refine x_aloadn (pc := 790) (i0 := 0) (j := 1) (dK D_Law_plan_7 47 rfl) rfl rfl ?_
      refine bnE h ?_
      clear h
      intro v338 e_v338 h
      refine wx_getV (pc := 791) (ci := 12) (f := 9) e_v338 (dK D_Law_plan_7 48 rfl) q_786 (ltK rfl) (ltK rfl) (fun hv338 => ?_)
      refine x_iload (pc := 794) (j := 0) (dK D_Law_plan_7 49 rfl) rfl ?_
      refine wx_iconst (pc := 796) (dK D_Law_plan_8 0 rfl) ?_
      refine wx_idiv (pc := 797) (dK D_Law_plan_8 1 rfl) h_p336 (inRk rfl) (by decide) ?_
      refine wx_iconst (pc := 798) (dK D_Law_plan_8 2 rfl) ?_
      refine x_aloadn (pc := 799) (i0 := 0) (j := 1) (dK D_Law_plan_8 3 rfl) rfl rfl ?_
      refine bnE h ?_
      clear h
      intro v339 e_v339 h
      refine wx_getI (pc := 800) (ci := 12) (f := 0) e_v339 (dK D_Law_plan_8 4 rfl) q_768 (ltK rfl) (ltK rfl) ?_
      refine wx_imul (pc := 803) (dK D_Law_plan_8 5 rfl) ?_
      refine nmE h ?_
      clear h
      intro v340 e_v340 h
      refine wtop e_v340 ?_
      refine nmE h ?_
      clear h
      intro v341 e_v341 h
      refine wsk (st' := [V v340, V v341, v338]) (congrArg (fun z9 => [V v340, z9, v338]) (Vn e_v341)) ?_
      refine gdE h ?_
      clear h
      intro hp342 h
      refine wx_irem (pc := 804) (dK D_Law_plan_8 6 rfl) (Vn_in e_v341) (Vn_in e_v340) hp342 ?_
      refine wx_iconst (pc := 805) (dK D_Law_plan_8 7 rfl) ?_
      refine x_iload (pc := 806) (j := 0) (dK D_Law_plan_8 8 rfl) rfl ?_
      refine wx_bipush (pc := 808) (dK D_Law_plan_8 9 rfl) rfl ?_
      refine wx_idiv (pc := 810) (dK D_Law_plan_8 10 rfl) h_p336 (inRk rfl) (by decide) ?_
      refine wx_bipush (pc := 811) (dK D_Law_plan_8 11 rfl) rfl ?_
      refine nmE h ?_
      clear h
      intro v343 e_v343 h
      refine wsk (st' := [V 30, V v343, V 1, V (v341.tmod v340), v338]) (congrArg (fun z9 => [V 30, z9, V 1, V (v341.tmod v340), v338]) (Vn e_v343)) ?_
      refine wx_irem (pc := 813) (dK D_Law_plan_8 12 rfl) (Vn_in e_v343) (inRk rfl) (by decide) ?_
      refine wx_iadd (pc := 814) (dK D_Law_plan_8 13 rfl) ?_
      refine nmE h ?_
      clear h
      intro v344 e_v344 h
      refine wtop e_v344 ?_
      refine nmE h ?_
      clear h
      intro v345 e_v345 h
      refine wsk (st' := [V v344, V v345, v338]) (congrArg (fun z9 => [V v344, z9, v338]) (Vn e_v345)) ?_
      refine rfE h ?_
      clear h
      intro r346 e_r346 h
      rw [e_r346]
      refine bnE h ?_
      clear h
      intro L347 e_L347 h
      refine wx_iast (Z := (S, L)) (pc := 815) (z := v344) e_L347 (Vn_in e_v345) (dK D_Law_plan_8 14 rfl) ?_
      refine gdE h ?_
      clear h
      intro hl348 h
      obtain ⟨y351, h9, e9⟩ := adE2 h
      clear h
      subst e9
      have h := h9
      clear h9
      refine nwE h ?_
      clear h
      intro r349 L350 e_r349 e_L350 h
      have hk1 := Nat.le_trans (bd1 hb) hkt
      have hn1 := Nat.le_trans (bd2 hb) hnt
      replace hb := bdA hb
      refine wn_new (Z := (S, L347)) (pc := 816) (ci := 15) (N := 4) e_r349 e_L350 hl348 rfl (dK D_Law_plan_8 15 rfl) (ltK rfl) q_1275 q_1276 q_33 hk1 hn1 ?_
      refine x_dup (pc := 819) (dK D_Law_plan_8 16 rfl) rfl ?_
      refine bnE h ?_
      clear h
      intro p352 e_p352 h
      obtain ⟨yp352, h9, e9⟩ := adE2 h
      clear h
      subst e9
      have h := h9
      clear h9
      have hk1 := Nat.le_trans (bd1 hb) hkt
      have hn1 := Nat.le_trans (bd2 hb) hnt
      replace hb := bdA hb
      refine x_callI (pc := 820) (As := []) (rest := [.ref r349]) (mc' := p352.2.1) (ms' := p352.2.2) (dK D_Law_plan_8 17 rfl) Q_Law_165 (fitK rfl) rfl (leK rfl) hk1 hn1 (tg_SB_init  e_p352) (kxU ?_)
      refine x_aloadV (pc := 823) (j := 4) hc5 (dK D_Law_plan_8 18 rfl) rfl ?_
      refine rfE h ?_
      clear h
      intro r353 e_r353 h
      rw [e_r353]
      refine gdE h ?_
      clear h
      intro hk355 h
      refine bnE h ?_
      clear h
      intro p354 e_p354 h
      obtain ⟨yp354, h9, e9⟩ := adE2 h
      clear h
      subst e9
      have h := h9
      clear h9
      have hk1 := Nat.le_trans (bd1 hb) hkt
      have hn1 := Nat.le_trans (bd2 hb) hnt
      replace hb := bdA hb
      refine x_callX (pc := 825) (As := [.ref r353]) (rest := []) (mc' := p354.2.1) (ms' := p354.2.2) (dK D_Law_plan_8 19 rfl) Q_Law_168 sx_SB_append (fitK rfl) (isK_at (Z := (p352.1.1, p352.1.2)) (ci := 15) hk355) rfl (leK rfl) hk1 hn1 (tg_SB_append  e_p354) (kxR (fun h_p354 => ?_))
      refine x_ldcSw (own := "FlatPlanLaw") (text := "close ") (j := 21) rfl (dK D_Law_plan_8 20 rfl) (List.mem_of_getElem? (i := 21) rfl) ?_
      refine rfE h ?_
      clear h
      intro r356 e_r356 h
      rw [e_r356]
      refine gdE h ?_
      clear h
      intro hk358 h
      refine bnE h ?_
      clear h
      intro p357 e_p357 h
      obtain ⟨yp357, h9, e9⟩ := adE2 h
      clear h
      subst e9
      have h := h9
      clear h9
      have hk1 := Nat.le_trans (bd1 hb) hkt
      have hn1 := Nat.le_trans (bd2 hb) hnt
      replace hb := bdA hb
      refine x_callX (pc := 831) (As := [.ref (XB + 21)]) (rest := []) (mc' := p357.2.1) (ms' := p357.2.2) (dK D_Law_plan_8 21 rfl) Q_Law_168 sx_SB_append (fitK rfl) (isK_at (Z := (p354.1.2.1, p354.1.2.2)) (ci := 15) hk358) rfl (leK rfl) hk1 hn1 (tg_SB_append  e_p357) (kxR (fun h_p357 => ?_))
      refine x_iload (pc := 834) (j := 0) (dK D_Law_plan_8 22 rfl) rfl ?_
      refine wx_iconst (pc := 836) (dK D_Law_plan_8 23 rfl) ?_
      refine wx_idiv (pc := 837) (dK D_Law_plan_8 24 rfl) h_p336 (inRk rfl) (by decide) ?_
      refine wx_iconst (pc := 838) (dK D_Law_plan_8 25 rfl) ?_
      refine x_aloadn (pc := 839) (i0 := 0) (j := 1) (dK D_Law_plan_8 26 rfl) rfl rfl ?_
      refine bnE h ?_
      clear h
      intro v359 e_v359 h
      refine wx_getI (pc := 840) (ci := 12) (f := 0) e_v359 (dK D_Law_plan_8 27 rfl) q_768 (ltK rfl) (ltK rfl) ?_
      refine wx_imul (pc := 843) (dK D_Law_plan_8 28 rfl) ?_
      refine nmE h ?_
      clear h
      intro v360 e_v360 h
      refine wtop e_v360 ?_
      refine nmE h ?_
      clear h
      intro v361 e_v361 h
      refine wsk (st' := [V v360, V v361, p357.1.1]) (congrArg (fun z9 => [V v360, z9, p357.1.1]) (Vn e_v361)) ?_
      refine gdE h ?_
      clear h
      intro hp362 h
      refine wx_irem (pc := 844) (dK D_Law_plan_8 29 rfl) (Vn_in e_v361) (Vn_in e_v360) hp362 ?_
      refine nmE h ?_
      clear h
      intro v363 e_v363 h
      refine wtop e_v363 ?_
      refine rfE h ?_
      clear h
      intro r364 e_r364 h
      rw [e_r364]
      refine gdE h ?_
      clear h
      intro hk366 h
      refine bnE h ?_
      clear h
      intro p365 e_p365 h
      obtain ⟨yp365, h9, e9⟩ := adE2 h
      clear h
      subst e9
      have h := h9
      clear h9
      have hk1 := Nat.le_trans (bd1 hb) hkt
      have hn1 := Nat.le_trans (bd2 hb) hnt
      replace hb := bdA hb
      refine x_callX (pc := 845) (As := [V v363]) (rest := []) (mc' := p365.2.1) (ms' := p365.2.2) (dK D_Law_plan_8 30 rfl) Q_Law_172 sx_SB_append2 (fitK rfl) (isK_at (Z := (p357.1.2.1, p357.1.2.2)) (ci := 15) hk366) rfl (leK rfl) hk1 hn1 (tg_SB_append2 (Vn_in e_v363) e_p365) (kxR (fun h_p365 => ?_))
      refine x_ldcSw (own := "FlatPlanLaw") (text := " ") (j := 14) rfl (dK D_Law_plan_8 31 rfl) (List.mem_of_getElem? (i := 14) rfl) ?_
      refine rfE h ?_
      clear h
      intro r367 e_r367 h
      rw [e_r367]
      refine gdE h ?_
      clear h
      intro hk369 h
      refine bnE h ?_
      clear h
      intro p368 e_p368 h
      obtain ⟨yp368, h9, e9⟩ := adE2 h
      clear h
      subst e9
      have h := h9
      clear h9
      have hk1 := Nat.le_trans (bd1 hb) hkt
      have hn1 := Nat.le_trans (bd2 hb) hnt
      replace hb := bdA hb
      refine x_callX (pc := 851) (As := [.ref (XB + 14)]) (rest := []) (mc' := p368.2.1) (ms' := p368.2.2) (dK D_Law_plan_8 32 rfl) Q_Law_168 sx_SB_append (fitK rfl) (isK_at (Z := (p365.1.2.1, p365.1.2.2)) (ci := 15) hk369) rfl (leK rfl) hk1 hn1 (tg_SB_append  e_p368) (kxR (fun h_p368 => ?_))
      refine wx_iconst (pc := 854) (dK D_Law_plan_8 33 rfl) ?_
      refine x_iload (pc := 855) (j := 0) (dK D_Law_plan_8 34 rfl) rfl ?_
      refine wx_bipush (pc := 857) (dK D_Law_plan_8 35 rfl) rfl ?_
      refine wx_idiv (pc := 859) (dK D_Law_plan_8 36 rfl) h_p336 (inRk rfl) (by decide) ?_
      refine wx_bipush (pc := 860) (dK D_Law_plan_8 37 rfl) rfl ?_
      refine nmE h ?_
      clear h
      intro v370 e_v370 h
      refine wsk (st' := [V 30, V v370, V 1, p368.1.1]) (congrArg (fun z9 => [V 30, z9, V 1, p368.1.1]) (Vn e_v370)) ?_
      refine wx_irem (pc := 862) (dK D_Law_plan_8 38 rfl) (Vn_in e_v370) (inRk rfl) (by decide) ?_
      refine wx_iadd (pc := 863) (dK D_Law_plan_8 39 rfl) ?_
      refine nmE h ?_
      clear h
      intro v371 e_v371 h
      refine wtop e_v371 ?_
      refine rfE h ?_
      clear h
      intro r372 e_r372 h
      rw [e_r372]
      refine gdE h ?_
      clear h
      intro hk374 h
      refine bnE h ?_
      clear h
      intro p373 e_p373 h
      obtain ⟨yp373, h9, e9⟩ := adE2 h
      clear h
      subst e9
      have h := h9
      clear h9
      have hk1 := Nat.le_trans (bd1 hb) hkt
      have hn1 := Nat.le_trans (bd2 hb) hnt
      replace hb := bdA hb
      refine x_callX (pc := 864) (As := [V v371]) (rest := []) (mc' := p373.2.1) (ms' := p373.2.2) (dK D_Law_plan_8 40 rfl) Q_Law_172 sx_SB_append2 (fitK rfl) (isK_at (Z := (p368.1.2.1, p368.1.2.2)) (ci := 15) hk374) rfl (leK rfl) hk1 hn1 (tg_SB_append2 (Vn_in e_v371) e_p373) (kxR (fun h_p373 => ?_))
      refine x_ldcSw (own := "FlatPlanLaw") (text := ";") (j := 15) rfl (dK D_Law_plan_8 41 rfl) (List.mem_of_getElem? (i := 15) rfl) ?_
      refine rfE h ?_
      clear h
      intro r375 e_r375 h
      rw [e_r375]
      refine gdE h ?_
      clear h
      intro hk377 h
      refine bnE h ?_
      clear h
      intro p376 e_p376 h
      obtain ⟨yp376, h9, e9⟩ := adE2 h
      clear h
      subst e9
      have h := h9
      clear h9
      have hk1 := Nat.le_trans (bd1 hb) hkt
      have hn1 := Nat.le_trans (bd2 hb) hnt
      replace hb := bdA hb
      refine x_callX (pc := 870) (As := [.ref (XB + 15)]) (rest := []) (mc' := p376.2.1) (ms' := p376.2.2) (dK D_Law_plan_8 42 rfl) Q_Law_168 sx_SB_append (fitK rfl) (isK_at (Z := (p373.1.2.1, p373.1.2.2)) (ci := 15) hk377) rfl (leK rfl) hk1 hn1 (tg_SB_append  e_p376) (kxR (fun h_p376 => ?_))
      refine rfE h ?_
      clear h
      intro r378 e_r378 h
      rw [e_r378]
      refine gdE h ?_
      clear h
      intro hk380 h
      refine bnE h ?_
      clear h
      intro p379 e_p379 h
      obtain ⟨yp379, h9, e9⟩ := adE2 h
      clear h
      subst e9
      have h := h9
      clear h9
      have hk1 := Nat.le_trans (bd1 hb) hkt
      have hn1 := Nat.le_trans (bd2 hb) hnt
      replace hb := bdA hb
      refine x_callX (pc := 873) (As := []) (rest := []) (mc' := p379.2.1) (ms' := p379.2.2) (dK D_Law_plan_8 43 rfl) Q_Law_175 sx_SB_toString (fitK rfl) (isK_at (Z := (p376.1.2.1, p376.1.2.2)) (ci := 15) hk380) rfl (leK rfl) hk1 hn1 (tg_SB_toString  e_p379) (kxR (fun h_p379 => ?_))
      refine x_astoreV (pc := 876) (ls2 := [(5, p379.1.1), (7, V p336), (0, .ref c0), (1, .ref (XB + 200)), (2, V a2), (6, V a6)]) h_p379 (dK D_Law_plan_8 44 rfl) (ltK rfl) rfl ?_
      refine nmE h ?_
      clear h
      intro v381 e_v381 h
      refine wx_iinc (pc := 878) (j := 5) (a := a6) (z := 1) (ls2 := [(6, V v381), (5, p379.1.1), (7, V p336), (0, .ref c0), (1, .ref (XB + 200)), (2, V a2)]) (dK D_Law_plan_8 45 rfl) rfl e_v381 (ltK rfl) (by simp [stI, List.filter, cato h_p379]) ?_
      refine x_goto (pc := 881) (tgt := 761) (dK D_Law_plan_8 46 rfl) rfl ?_
      refine x_weak (ls' := [(0, .ref c0), (1, .ref (XB + 200)), (2, V a2), (5, p379.1.1), (6, V v381)]) (sbc 3 rfl (sbc 4 rfl (sbc 5 rfl (sbc 1 rfl (sbc 0 rfl sbn))))) ?_
      replace h := ih _ _ h
      exact h _ _ hb h_p379 (Vn_in e_v381) hx
    · replace h := ifP h hc383
      refine x_goto (pc := 787) (tgt := 878) (dK D_Law_plan_7 46 rfl) rfl ?_
      refine nmE h ?_
      clear h
      intro v382 e_v382 h
      refine wx_iinc (pc := 878) (j := 5) (a := a6) (z := 1) (ls2 := [(6, V v382), (7, V p336), (0, .ref c0), (1, .ref (XB + 200)), (2, V a2), (5, c5)]) (dK D_Law_plan_8 45 rfl) rfl e_v382 (ltK rfl) (by simp [stI, List.filter, cato hc5]) ?_
      refine x_goto (pc := 881) (tgt := 761) (dK D_Law_plan_8 46 rfl) rfl ?_
      refine x_weak (ls' := [(0, .ref c0), (1, .ref (XB + 200)), (2, V a2), (5, c5), (6, V v382)]) (sbc 2 rfl (sbc 3 rfl (sbc 4 rfl (sbc 5 rfl (sbc 0 rfl sbn))))) ?_
      replace h := ih _ _ h
      exact h _ _ hb hc5 (Vn_in e_v382) hx
def lb2_Law_plan_887 (sc : SC) (c0 : Nat) (a2 : Int) (go : Value × Int × LZ → Option ((Value × LZ) × Nat × Nat)) (c5 : Value) (a6 : Int) (S : St) (L : List PC) : Option ((Value × LZ) × Nat × Nat) := bnO (gfV L c0 12 4) fun v386 => rfB v386 fun r387 => if isK L r387 13 = true then (bnO (gn_AL_size r387 S L) fun p388 => if p388 ≤ a6 then (some ((c5, (S, L)), 0, 0)) else (nm (wr ((a2 + 35) + a6)) fun v390 => bnO (gn_Law_pick sc v390 S L) fun p391 => if isK L c0 12 = true then (bnO (gn_LP_pages c0 S L) fun p392 => if 0 < p392 then (nm (wr (1 + (p391.tmod p392))) fun v395 => bnO (gfV L c0 12 4) fun v396 => rfB v396 fun r397 => if isK L r397 13 = true then (bnO (gn_AL_get r397 a6 S L) fun p398 => rfB p398 fun r400 => if isK L r400 11 = true then (if isK L c0 12 = true then (bnO (gn_LP_reason c0 r400 v395 S L) fun p402 => adC p402.2.1 p402.2.2 (if p402.1.1 = 0 then (bnO (gfV p402.1.2.2 c0 12 4) fun v404 => rfB v404 fun r405 => if isK p402.1.2.2 r405 13 = true then (bnO (gn_AL_get r405 a6 p402.1.2.1 p402.1.2.2) fun p406 => rfB p406 fun r408 => if isK p402.1.2.2 r408 11 = true then (bnO (pf p402.1.2.2 r408 11 5 (V v395)) fun L410 => if L410.length < 900000000 then adC 1 4 (nw L410 (15, dfl 15) fun r412 L413 => bnO (gn_SB_init r412 p402.1.2.1 L413) fun p415 => adC p415.2.1 p415.2.2 (rfB c5 fun r416 => if isK p415.1.2 r412 15 = true then (bnO (gn_SB_append r412 r416 p415.1.1 p415.1.2) fun p417 => adC p417.2.1 p417.2.2 (rfB p417.1.1 fun r419 => if isK p417.1.2.2 r419 15 = true then (bnO (gn_SB_append r419 (XB + 22) p417.1.2.1 p417.1.2.2) fun p420 => adC p420.2.1 p420.2.2 (rfB p420.1.1 fun r422 => if isK p420.1.2.2 r422 15 = true then (bnO (gn_SB_append2 r422 a6 p420.1.2.1 p420.1.2.2) fun p423 => adC p423.2.1 p423.2.2 (rfB p423.1.1 fun r425 => if isK p423.1.2.2 r425 15 = true then (bnO (gn_SB_append r425 (XB + 14) p423.1.2.1 p423.1.2.2) fun p426 => adC p426.2.1 p426.2.2 (rfB p426.1.1 fun r428 => if isK p426.1.2.2 r428 15 = true then (bnO (gn_SB_append2 r428 v395 p426.1.2.1 p426.1.2.2) fun p429 => adC p429.2.1 p429.2.2 (rfB p429.1.1 fun r431 => if isK p429.1.2.2 r431 15 = true then (bnO (gn_SB_append r431 (XB + 15) p429.1.2.1 p429.1.2.2) fun p432 => adC p432.2.1 p432.2.2 (rfB p432.1.1 fun r434 => if isK p432.1.2.2 r434 15 = true then (bnO (gn_SB_toString r434 p432.1.2.1 p432.1.2.2) fun p435 => adC p435.2.1 p435.2.2 (nm (wr (a6 + 2)) fun v437 => go (p435.1.1, v437, (p435.1.2.1, p435.1.2.2)))) else none)) else none)) else none)) else none)) else none)) else none)) else none)) else none) else none) else none) else (nm (wr (a6 + 2)) fun v438 => go (c5, v438, (p402.1.2.1, p402.1.2.2))))) else none) else none) else none) else none) else none)) else none
def lo2_Law_plan_887 (sc : SC) (c0 : Nat) (a2 : Int) : Nat → Value × Int × LZ → Option ((Value × LZ) × Nat × Nat) := lp fun go p => lb2_Law_plan_887 sc c0 a2 go p.1 p.2.1 p.2.2.1 p.2.2.2
theorem tl2_Law_plan_887 {sc : SC} {c0 : Nat} {a2 : Int} (ha2 : inR a2) {K : Option Value → List PC → Prop} {mc ms kt nt : Nat} (hkt : kt ≤ mc) (hnt : nt ≤ ms) : ∀ (N : Nat) (a : Value × Int × LZ) (q : (Value × LZ) × Nat × Nat), lo2_Law_plan_887 sc c0 a2 N a = some q → ∀ k n, Bd k n kt nt q → (a.1 = .null ∨ ∃ b, a.1 = .ref b) → inR a.2.1 → ((q.1.1 = .null ∨ ∃ b, q.1.1 = .ref b) → GX sc M_Law_plan mc ms 1011 [(5, q.1.1)] [] (wz q.1.2) kt nt K) → GX sc M_Law_plan mc ms 887 [(0, .ref c0), (1, .ref (XB + 200)), (2, V a2), (5, a.1), (6, V a.2.1)] [] (wz a.2.2) k n K := by
  refine lp_ind2 (P := fun (a : Value × Int × LZ) (q : (Value × LZ) × Nat × Nat) => ∀ k n, Bd k n kt nt q → (a.1 = .null ∨ ∃ b, a.1 = .ref b) → inR a.2.1 → ((q.1.1 = .null ∨ ∃ b, q.1.1 = .ref b) → GX sc M_Law_plan mc ms 1011 [(5, q.1.1)] [] (wz q.1.2) kt nt K) → GX sc M_Law_plan mc ms 887 [(0, .ref c0), (1, .ref (XB + 200)), (2, V a2), (5, a.1), (6, V a.2.1)] [] (wz a.2.2) k n K) (fun go ih a q h => ?_)
  obtain ⟨c5, a6, ⟨S, L⟩⟩ := a
  intro k n hb hc5 ha6 hx
  show GX sc M_Law_plan mc ms 887 [(0, .ref c0), (1, .ref (XB + 200)), (2, V a2), (5, c5), (6, V a6)] [] (wz (S, L)) k n K
  replace h : lb2_Law_plan_887 sc c0 a2 go c5 a6 S L = some q := h
  unfold lb2_Law_plan_887 at h
  refine x_iload (pc := 887) (j := 4) (dK D_Law_plan_8 49 rfl) rfl ?_
  refine x_aloadn (pc := 889) (i0 := 0) (j := 0) (dK D_Law_plan_9 0 rfl) rfl rfl ?_
  refine bnE h ?_
  clear h
  intro v386 e_v386 h
  refine wx_getV (pc := 890) (ci := 12) (f := 4) e_v386 (dK D_Law_plan_9 1 rfl) q_776 (ltK rfl) (ltK rfl) (fun hv386 => ?_)
  refine rfE h ?_
  clear h
  intro r387 e_r387 h
  rw [e_r387]
  refine gdE h ?_
  clear h
  intro hk389 h
  refine bnE h ?_
  clear h
  intro p388 e_p388 h
  refine x_callX (pc := 893) (As := []) (rest := [V a6]) (mc' := 0) (ms' := 0) (dK D_Law_plan_9 2 rfl) Q_Law_55 sx_AL_size (fitK rfl) (isK_at (Z := (S, L)) (ci := 13) hk389) rfl (leK rfl) (Nat.le_trans (bdk hb) hkt) (Nat.le_trans (bdn hb) hnt) (tg_AL_size  e_p388) (kxI' (fun h_p388 => ?_))
  refine wx_icmp_ge (pc := 896) (t := 1011) (dK D_Law_plan_9 3 rfl) rfl ha6 h_p388 (fun hc440 => ?_) (fun hc440 => ?_)
  · replace h := ifP h hc440
    obtain rfl := Option.some.inj h
    refine x_weak (ls' := [(5, c5)]) (sbc 3 rfl sbn) ?_
    refine x_room (bdk hb) (bdn hb) ?_
    exact hx hc5
  · replace h := ifN h hc440
    refine wx_iconst (pc := 899) (dK D_Law_plan_9 4 rfl) ?_
    refine x_aloadn (pc := 900) (i0 := 1) (j := 1) (dK D_Law_plan_9 5 rfl) rfl rfl ?_
    refine x_iloadn (pc := 901) (i0 := 2) (j := 2) (dK D_Law_plan_9 6 rfl) rfl rfl ?_
    refine wx_bipush (pc := 902) (dK D_Law_plan_9 7 rfl) rfl ?_
    refine wx_iadd (pc := 904) (dK D_Law_plan_9 8 rfl) ?_
    refine x_iload (pc := 905) (j := 4) (dK D_Law_plan_9 9 rfl) rfl ?_
    refine wx_iadd (pc := 907) (dK D_Law_plan_9 10 rfl) ?_
    refine nmE h ?_
    clear h
    intro v390 e_v390 h
    refine wtop e_v390 ?_
    refine bnE h ?_
    clear h
    intro p391 e_p391 h
    refine x_callS (pc := 908) (As := [.ref (XB + 200), V v390]) (rest := [V 1]) (mc' := 0) (ms' := 0) (dK D_Law_plan_9 11 rfl) Q_Law_362 (fitK rfl) rfl (leK rfl) (Nat.le_trans (bdk hb) hkt) (Nat.le_trans (bdn hb) hnt) (tg_Law_pick (Vn_in e_v390) e_p391) (kxI' (fun h_p391 => ?_))
    refine x_aloadn (pc := 911) (i0 := 0) (j := 0) (dK D_Law_plan_9 12 rfl) rfl rfl ?_
    refine gdE h ?_
    clear h
    intro hk393 h
    refine bnE h ?_
    clear h
    intro p392 e_p392 h
    refine x_callX (pc := 912) (As := []) (rest := [V p391, V 1]) (mc' := 0) (ms' := 0) (dK D_Law_plan_9 13 rfl) Q_Law_42 sx_LP_pages (fitK rfl) (isK_at (Z := (S, L)) (ci := 12) hk393) rfl (leK rfl) (Nat.le_trans (bdk hb) hkt) (Nat.le_trans (bdn hb) hnt) (tg_LP_pages  e_p392) (kxI' (fun h_p392 => ?_))
    refine gdE h ?_
    clear h
    intro hp394 h
    refine wx_irem (pc := 915) (dK D_Law_plan_9 14 rfl) h_p391 h_p392 hp394 ?_
    refine wx_iadd (pc := 916) (dK D_Law_plan_9 15 rfl) ?_
    refine nmE h ?_
    clear h
    intro v395 e_v395 h
    refine wtop e_v395 ?_
    refine x_istore (pc := 917) (ls2 := [(7, V v395), (0, .ref c0), (1, .ref (XB + 200)), (2, V a2), (5, c5), (6, V a6)]) (dK D_Law_plan_9 16 rfl) (ltK rfl) rfl ?_
    refine x_aloadn (pc := 919) (i0 := 0) (j := 1) (dK D_Law_plan_9 17 rfl) rfl rfl ?_
    refine x_aloadn (pc := 920) (i0 := 0) (j := 1) (dK D_Law_plan_9 18 rfl) rfl rfl ?_
    refine bnE h ?_
    clear h
    intro v396 e_v396 h
    refine wx_getV (pc := 921) (ci := 12) (f := 4) e_v396 (dK D_Law_plan_9 19 rfl) q_776 (ltK rfl) (ltK rfl) (fun hv396 => ?_)
    refine x_iload (pc := 924) (j := 5) (dK D_Law_plan_9 20 rfl) rfl ?_
    refine rfE h ?_
    clear h
    intro r397 e_r397 h
    rw [e_r397]
    refine gdE h ?_
    clear h
    intro hk399 h
    refine bnE h ?_
    clear h
    intro p398 e_p398 h
    refine x_callX (pc := 926) (As := [V a6]) (rest := [.ref c0]) (mc' := 0) (ms' := 0) (dK D_Law_plan_9 21 rfl) Q_Law_69 sx_AL_get (fitK rfl) (isK_at (Z := (S, L)) (ci := 13) hk399) rfl (leK rfl) (Nat.le_trans (bdk hb) hkt) (Nat.le_trans (bdn hb) hnt) (tg_AL_get ha6 e_p398) (kxR (fun h_p398 => ?_))
    refine rfE h ?_
    clear h
    intro r400 e_r400 h
    rw [e_r400]
    refine gdE h ?_
    clear h
    intro hk401 h
    refine x_cast (pc := 929) (dK D_Law_plan_9 22 rfl) q_1033 (isK_at (Z := (S, L)) (ci := 11) hk401) ?_
    refine x_iload (pc := 932) (j := 0) (dK D_Law_plan_9 23 rfl) rfl ?_
    refine gdE h ?_
    clear h
    intro hk403 h
    refine bnE h ?_
    clear h
    intro p402 e_p402 h
    obtain ⟨yp402, h9, e9⟩ := adE2 h
    clear h
    subst e9
    have h := h9
    clear h9
    have hk1 := Nat.le_trans (bd1 hb) hkt
    have hn1 := Nat.le_trans (bd2 hb) hnt
    replace hb := bdA hb
    refine x_callX (pc := 934) (As := [.ref r400, V v395]) (rest := []) (mc' := p402.2.1) (ms' := p402.2.2) (dK D_Law_plan_9 24 rfl) Q_Law_261 sx_LP_reason (fitK rfl) (isK_at (Z := (S, L)) (ci := 12) hk403) rfl (leK rfl) hk1 hn1 (tg_LP_reason (Vn_in e_v395) e_p402) (kxI' (fun h_p402 => ?_))
    refine wx_if_eq (pc := 937) (t := 943) (dK D_Law_plan_9 25 rfl) rfl h_p402 (fun hc439 => ?_) (fun hc439 => ?_)
    · replace h := ifP h hc439
      refine x_aloadn (pc := 943) (i0 := 0) (j := 1) (dK D_Law_plan_9 27 rfl) rfl rfl ?_
      refine bnE h ?_
      clear h
      intro v404 e_v404 h
      refine wx_getV (pc := 944) (ci := 12) (f := 4) e_v404 (dK D_Law_plan_9 28 rfl) q_776 (ltK rfl) (ltK rfl) (fun hv404 => ?_)
      refine x_iload (pc := 947) (j := 5) (dK D_Law_plan_9 29 rfl) rfl ?_
      refine rfE h ?_
      clear h
      intro r405 e_r405 h
      rw [e_r405]
      refine gdE h ?_
      clear h
      intro hk407 h
      refine bnE h ?_
      clear h
      intro p406 e_p406 h
      refine x_callX (pc := 949) (As := [V a6]) (rest := []) (mc' := 0) (ms' := 0) (dK D_Law_plan_9 30 rfl) Q_Law_69 sx_AL_get (fitK rfl) (isK_at (Z := (p402.1.2.1, p402.1.2.2)) (ci := 13) hk407) rfl (leK rfl) (Nat.le_trans (bdk hb) hkt) (Nat.le_trans (bdn hb) hnt) (tg_AL_get ha6 e_p406) (kxR (fun h_p406 => ?_))
      refine rfE h ?_
      clear h
      intro r408 e_r408 h
      rw [e_r408]
      refine gdE h ?_
      clear h
      intro hk409 h
      refine x_cast (pc := 952) (dK D_Law_plan_9 31 rfl) q_1033 (isK_at (Z := (p402.1.2.1, p402.1.2.2)) (ci := 11) hk409) ?_
      refine x_iload (pc := 955) (j := 0) (dK D_Law_plan_9 32 rfl) rfl ?_
      refine bnE h ?_
      clear h
      intro L410 e_L410 h
      refine wx_put (Z := (p402.1.2.1, p402.1.2.2)) (pc := 957) (ci := 11) (f := 5) e_L410 (dK D_Law_plan_9 33 rfl) q_889 (ltK rfl) (ltK rfl) rfl okInt ?_
      refine gdE h ?_
      clear h
      intro hl411 h
      obtain ⟨y414, h9, e9⟩ := adE2 h
      clear h
      subst e9
      have h := h9
      clear h9
      refine nwE h ?_
      clear h
      intro r412 L413 e_r412 e_L413 h
      have hk1 := Nat.le_trans (bd1 hb) hkt
      have hn1 := Nat.le_trans (bd2 hb) hnt
      replace hb := bdA hb
      refine wn_new (Z := (p402.1.2.1, L410)) (pc := 960) (ci := 15) (N := 4) e_r412 e_L413 hl411 rfl (dK D_Law_plan_9 34 rfl) (ltK rfl) q_1275 q_1276 q_33 hk1 hn1 ?_
      refine x_dup (pc := 963) (dK D_Law_plan_9 35 rfl) rfl ?_
      refine bnE h ?_
      clear h
      intro p415 e_p415 h
      obtain ⟨yp415, h9, e9⟩ := adE2 h
      clear h
      subst e9
      have h := h9
      clear h9
      have hk1 := Nat.le_trans (bd1 hb) hkt
      have hn1 := Nat.le_trans (bd2 hb) hnt
      replace hb := bdA hb
      refine x_callI (pc := 964) (As := []) (rest := [.ref r412]) (mc' := p415.2.1) (ms' := p415.2.2) (dK D_Law_plan_9 36 rfl) Q_Law_165 (fitK rfl) rfl (leK rfl) hk1 hn1 (tg_SB_init  e_p415) (kxU ?_)
      refine x_aloadV (pc := 967) (j := 4) hc5 (dK D_Law_plan_9 37 rfl) rfl ?_
      refine rfE h ?_
      clear h
      intro r416 e_r416 h
      rw [e_r416]
      refine gdE h ?_
      clear h
      intro hk418 h
      refine bnE h ?_
      clear h
      intro p417 e_p417 h
      obtain ⟨yp417, h9, e9⟩ := adE2 h
      clear h
      subst e9
      have h := h9
      clear h9
      have hk1 := Nat.le_trans (bd1 hb) hkt
      have hn1 := Nat.le_trans (bd2 hb) hnt
      replace hb := bdA hb
      refine x_callX (pc := 969) (As := [.ref r416]) (rest := []) (mc' := p417.2.1) (ms' := p417.2.2) (dK D_Law_plan_9 38 rfl) Q_Law_168 sx_SB_append (fitK rfl) (isK_at (Z := (p415.1.1, p415.1.2)) (ci := 15) hk418) rfl (leK rfl) hk1 hn1 (tg_SB_append  e_p417) (kxR (fun h_p417 => ?_))
      refine x_ldcSw (own := "FlatPlanLaw") (text := "put ") (j := 22) rfl (dK D_Law_plan_9 39 rfl) (List.mem_of_getElem? (i := 22) rfl) ?_
      refine rfE h ?_
      clear h
      intro r419 e_r419 h
      rw [e_r419]
      refine gdE h ?_
      clear h
      intro hk421 h
      refine bnE h ?_
      clear h
      intro p420 e_p420 h
      obtain ⟨yp420, h9, e9⟩ := adE2 h
      clear h
      subst e9
      have h := h9
      clear h9
      have hk1 := Nat.le_trans (bd1 hb) hkt
      have hn1 := Nat.le_trans (bd2 hb) hnt
      replace hb := bdA hb
      refine x_callX (pc := 975) (As := [.ref (XB + 22)]) (rest := []) (mc' := p420.2.1) (ms' := p420.2.2) (dK D_Law_plan_9 40 rfl) Q_Law_168 sx_SB_append (fitK rfl) (isK_at (Z := (p417.1.2.1, p417.1.2.2)) (ci := 15) hk421) rfl (leK rfl) hk1 hn1 (tg_SB_append  e_p420) (kxR (fun h_p420 => ?_))
      refine x_iload (pc := 978) (j := 5) (dK D_Law_plan_9 41 rfl) rfl ?_
      refine rfE h ?_
      clear h
      intro r422 e_r422 h
      rw [e_r422]
      refine gdE h ?_
      clear h
      intro hk424 h
      refine bnE h ?_
      clear h
      intro p423 e_p423 h
      obtain ⟨yp423, h9, e9⟩ := adE2 h
      clear h
      subst e9
      have h := h9
      clear h9
      have hk1 := Nat.le_trans (bd1 hb) hkt
      have hn1 := Nat.le_trans (bd2 hb) hnt
      replace hb := bdA hb
      refine x_callX (pc := 980) (As := [V a6]) (rest := []) (mc' := p423.2.1) (ms' := p423.2.2) (dK D_Law_plan_9 42 rfl) Q_Law_172 sx_SB_append2 (fitK rfl) (isK_at (Z := (p420.1.2.1, p420.1.2.2)) (ci := 15) hk424) rfl (leK rfl) hk1 hn1 (tg_SB_append2 ha6 e_p423) (kxR (fun h_p423 => ?_))
      refine x_ldcSw (own := "FlatPlanLaw") (text := " ") (j := 14) rfl (dK D_Law_plan_9 43 rfl) (List.mem_of_getElem? (i := 14) rfl) ?_
      refine rfE h ?_
      clear h
      intro r425 e_r425 h
      rw [e_r425]
      refine gdE h ?_
      clear h
      intro hk427 h
      refine bnE h ?_
      clear h
      intro p426 e_p426 h
      obtain ⟨yp426, h9, e9⟩ := adE2 h
      clear h
      subst e9
      have h := h9
      clear h9
      have hk1 := Nat.le_trans (bd1 hb) hkt
      have hn1 := Nat.le_trans (bd2 hb) hnt
      replace hb := bdA hb
      refine x_callX (pc := 986) (As := [.ref (XB + 14)]) (rest := []) (mc' := p426.2.1) (ms' := p426.2.2) (dK D_Law_plan_9 44 rfl) Q_Law_168 sx_SB_append (fitK rfl) (isK_at (Z := (p423.1.2.1, p423.1.2.2)) (ci := 15) hk427) rfl (leK rfl) hk1 hn1 (tg_SB_append  e_p426) (kxR (fun h_p426 => ?_))
      refine x_iload (pc := 989) (j := 0) (dK D_Law_plan_9 45 rfl) rfl ?_
      refine rfE h ?_
      clear h
      intro r428 e_r428 h
      rw [e_r428]
      refine gdE h ?_
      clear h
      intro hk430 h
      refine bnE h ?_
      clear h
      intro p429 e_p429 h
      obtain ⟨yp429, h9, e9⟩ := adE2 h
      clear h
      subst e9
      have h := h9
      clear h9
      have hk1 := Nat.le_trans (bd1 hb) hkt
      have hn1 := Nat.le_trans (bd2 hb) hnt
      replace hb := bdA hb
      refine x_callX (pc := 991) (As := [V v395]) (rest := []) (mc' := p429.2.1) (ms' := p429.2.2) (dK D_Law_plan_9 46 rfl) Q_Law_172 sx_SB_append2 (fitK rfl) (isK_at (Z := (p426.1.2.1, p426.1.2.2)) (ci := 15) hk430) rfl (leK rfl) hk1 hn1 (tg_SB_append2 (Vn_in e_v395) e_p429) (kxR (fun h_p429 => ?_))
      refine x_ldcSw (own := "FlatPlanLaw") (text := ";") (j := 15) rfl (dK D_Law_plan_9 47 rfl) (List.mem_of_getElem? (i := 15) rfl) ?_
      refine rfE h ?_
      clear h
      intro r431 e_r431 h
      rw [e_r431]
      refine gdE h ?_
      clear h
      intro hk433 h
      refine bnE h ?_
      clear h
      intro p432 e_p432 h
      obtain ⟨yp432, h9, e9⟩ := adE2 h
      clear h
      subst e9
      have h := h9
      clear h9
      have hk1 := Nat.le_trans (bd1 hb) hkt
      have hn1 := Nat.le_trans (bd2 hb) hnt
      replace hb := bdA hb
      refine x_callX (pc := 997) (As := [.ref (XB + 15)]) (rest := []) (mc' := p432.2.1) (ms' := p432.2.2) (dK D_Law_plan_9 48 rfl) Q_Law_168 sx_SB_append (fitK rfl) (isK_at (Z := (p429.1.2.1, p429.1.2.2)) (ci := 15) hk433) rfl (leK rfl) hk1 hn1 (tg_SB_append  e_p432) (kxR (fun h_p432 => ?_))
      refine rfE h ?_
      clear h
      intro r434 e_r434 h
      rw [e_r434]
      refine gdE h ?_
      clear h
      intro hk436 h
      refine bnE h ?_
      clear h
      intro p435 e_p435 h
      obtain ⟨yp435, h9, e9⟩ := adE2 h
      clear h
      subst e9
      have h := h9
      clear h9
      have hk1 := Nat.le_trans (bd1 hb) hkt
      have hn1 := Nat.le_trans (bd2 hb) hnt
      replace hb := bdA hb
      refine x_callX (pc := 1000) (As := []) (rest := []) (mc' := p435.2.1) (ms' := p435.2.2) (dK D_Law_plan_9 49 rfl) Q_Law_175 sx_SB_toString (fitK rfl) (isK_at (Z := (p432.1.2.1, p432.1.2.2)) (ci := 15) hk436) rfl (leK rfl) hk1 hn1 (tg_SB_toString  e_p435) (kxR (fun h_p435 => ?_))
      refine x_astoreV (pc := 1003) (ls2 := [(5, p435.1.1), (7, V v395), (0, .ref c0), (1, .ref (XB + 200)), (2, V a2), (6, V a6)]) h_p435 (dK D_Law_plan_10 0 rfl) (ltK rfl) rfl ?_
      refine nmE h ?_
      clear h
      intro v437 e_v437 h
      refine wx_iinc (pc := 1005) (j := 5) (a := a6) (z := 2) (ls2 := [(6, V v437), (5, p435.1.1), (7, V v395), (0, .ref c0), (1, .ref (XB + 200)), (2, V a2)]) (dK D_Law_plan_10 1 rfl) rfl e_v437 (ltK rfl) (by simp [stI, List.filter, cato h_p435]) ?_
      refine x_goto (pc := 1008) (tgt := 887) (dK D_Law_plan_10 2 rfl) rfl ?_
      refine x_weak (ls' := [(0, .ref c0), (1, .ref (XB + 200)), (2, V a2), (5, p435.1.1), (6, V v437)]) (sbc 3 rfl (sbc 4 rfl (sbc 5 rfl (sbc 1 rfl (sbc 0 rfl sbn))))) ?_
      replace h := ih _ _ h
      exact h _ _ hb h_p435 (Vn_in e_v437) hx
    · replace h := ifN h hc439
      refine x_goto (pc := 940) (tgt := 1005) (dK D_Law_plan_9 26 rfl) rfl ?_
      refine nmE h ?_
      clear h
      intro v438 e_v438 h
      refine wx_iinc (pc := 1005) (j := 5) (a := a6) (z := 2) (ls2 := [(6, V v438), (7, V v395), (0, .ref c0), (1, .ref (XB + 200)), (2, V a2), (5, c5)]) (dK D_Law_plan_10 1 rfl) rfl e_v438 (ltK rfl) (by simp [stI, List.filter, cato hc5]) ?_
      refine x_goto (pc := 1008) (tgt := 887) (dK D_Law_plan_10 2 rfl) rfl ?_
      refine x_weak (ls' := [(0, .ref c0), (1, .ref (XB + 200)), (2, V a2), (5, c5), (6, V v438)]) (sbc 2 rfl (sbc 3 rfl (sbc 4 rfl (sbc 5 rfl (sbc 0 rfl sbn))))) ?_
      replace h := ih _ _ h
      exact h _ _ hb hc5 (Vn_in e_v438) hx
def gn_Law_plan (sc : SC) (c0 : Nat) (a2 : Int) (S : St) (L : List PC) : Option ((Value × LZ) × Nat × Nat) := bnO (gn_Law_pick sc a2 S L) fun p1 => if (0 : Int) ≤ 4 ∧ (4 : Int) ≤ 16384 then (if L.length < 900000000 then adC 1 (4 : Int).toNat (nw L (100, List.replicate (4 : Int).toNat (.int 0)) fun r5 L6 => bnO (ast L6 100 r5 0 (V 4)) fun L7 => bnO (ast L7 100 r5 1 (V 8)) fun L8 => bnO (ast L8 100 r5 2 (V 16)) fun L9 => bnO (ast L9 100 r5 3 (V 8)) fun L10 => nm (wr (1 + (p1.tmod 4))) fun v11 => bnO (pf L10 c0 12 0 (V v11)) fun L12 => nm (wr (p1.tdiv 4)) fun v13 => nm (wr (v13.tmod 4)) fun v14 => bnO (ald L12 0 r5 v14) fun v15 => bnO (pf L12 c0 12 1 (V v15)) fun L16 => if L16.length < 900000000 then adC 1 4 (nw L16 (15, dfl 15) fun r18 L19 => bnO (gn_SB_init r18 S L19) fun p21 => adC p21.2.1 p21.2.2 (if isK p21.1.2 r18 15 = true then (bnO (gn_SB_append r18 (XB + 13) p21.1.1 p21.1.2) fun p22 => adC p22.2.1 p22.2.2 (bnO (gfI p22.1.2.2 c0 12 0) fun v24 => rfB p22.1.1 fun r25 => if isK p22.1.2.2 r25 15 = true then (bnO (gn_SB_append2 r25 v24 p22.1.2.1 p22.1.2.2) fun p26 => adC p26.2.1 p26.2.2 (rfB p26.1.1 fun r28 => if isK p26.1.2.2 r28 15 = true then (bnO (gn_SB_append r28 (XB + 14) p26.1.2.1 p26.1.2.2) fun p29 => adC p29.2.1 p29.2.2 (bnO (gfI p29.1.2.2 c0 12 1) fun v31 => rfB p29.1.1 fun r32 => if isK p29.1.2.2 r32 15 = true then (bnO (gn_SB_append2 r32 v31 p29.1.2.1 p29.1.2.2) fun p33 => adC p33.2.1 p33.2.2 (rfB p33.1.1 fun r35 => if isK p33.1.2.2 r35 15 = true then (bnO (gn_SB_append r35 (XB + 15) p33.1.2.1 p33.1.2.2) fun p36 => adC p36.2.1 p36.2.2 (rfB p36.1.1 fun r38 => if isK p36.1.2.2 r38 15 = true then (bnO (gn_SB_toString r38 p36.1.2.1 p36.1.2.2) fun p39 => adC p39.2.1 p39.2.2 (bnO (lo2_Law_plan_98 sc c0 a2 p1 FU (p39.1.1, 0, (p39.1.2.1, p39.1.2.2))) fun p70 => adC p70.2.1 p70.2.2 (bnO (lo2_Law_plan_175 sc c0 a2 p1 FU (p70.1.1, 0, (p70.1.2.1, p70.1.2.2))) fun p198 => adC p198.2.1 p198.2.2 (bnO (lo2_Law_plan_456 sc c0 a2 p1 FU (p198.1.1, 0, (p198.1.2.1, p198.1.2.2))) fun p296 => adC p296.2.1 p296.2.2 (bnO (lo2_Law_plan_662 sc c0 a2 p1 FU (p296.1.1, 0, (p296.1.2.1, p296.1.2.2))) fun p334 => adC p334.2.1 p334.2.2 (bnO (lo2_Law_plan_761 sc c0 a2 FU (p334.1.1, 0, (p334.1.2.1, p334.1.2.2))) fun p385 => adC p385.2.1 p385.2.2 (bnO (lo2_Law_plan_887 sc c0 a2 FU (p385.1.1, 0, (p385.1.2.1, p385.1.2.2))) fun p441 => adC p441.2.1 p441.2.2 (some ((p441.1.1, (p441.1.2.1, p441.1.2.2)), 0, 0))))))))) else none)) else none)) else none)) else none)) else none)) else none)) else none) else none) else none
set_option maxHeartbeats 20000000 in
theorem te_Law_plan {sc : SC} {c0 : Nat} {a2 : Int} (ha2 : inR a2) {S : St} {L : List PC} {q : (Value × LZ) × Nat × Nat} (h : gn_Law_plan sc c0 a2 S L = some q) {mc ms k n : Nat} (hb : Bd k n mc ms q) : GX sc M_Law_plan mc ms 0 [(0, .ref c0), (1, .ref (XB + 200)), (2, V a2)] [] (wz (S, L)) k n (KXR q.1.1 q.1.2) := by
  unfold gn_Law_plan at h
  refine x_aloadn (pc := 0) (i0 := 1) (j := 1) (dK D_Law_plan_0 0 rfl) rfl rfl ?_
  refine x_iloadn (pc := 1) (i0 := 2) (j := 2) (dK D_Law_plan_0 1 rfl) rfl rfl ?_
  refine bnE h ?_
  clear h
  intro p1 e_p1 h
  refine x_callS (pc := 2) (As := [.ref (XB + 200), V a2]) (rest := []) (mc' := 0) (ms' := 0) (dK D_Law_plan_0 2 rfl) Q_Law_362 (fitK rfl) rfl (leK rfl) (bdk hb) (bdn hb) (tg_Law_pick ha2 e_p1) (kxI' (fun h_p1 => ?_))
  refine x_istoren (pc := 5) (i0 := 3) (ls2 := [(3, V p1), (0, .ref c0), (1, .ref (XB + 200)), (2, V a2)]) (dK D_Law_plan_0 3 rfl) rfl (ltK rfl) rfl ?_
  refine wx_iconst (pc := 6) (dK D_Law_plan_0 4 rfl) ?_
  refine gdE h ?_
  clear h
  intro hz2 h
  refine gdE h ?_
  clear h
  intro hl3 h
  obtain ⟨y4, h9, e9⟩ := adE2 h
  clear h
  subst e9
  have h := h9
  clear h9
  refine nwE h ?_
  clear h
  intro r5 L6 e_r5 e_L6 h
  have hk1 := bd1 hb
  have hn1 := bd2 hb
  replace hb := bdA hb
  refine wn_newa_int (Z := (S, L)) (pc := 7) e_r5 e_L6 hl3 (inRk rfl) hz2 (dK D_Law_plan_0 5 rfl) q_68 hk1 hn1 ?_
  refine x_dup (pc := 9) (dK D_Law_plan_0 6 rfl) rfl ?_
  refine wx_iconst (pc := 10) (dK D_Law_plan_0 7 rfl) ?_
  refine wx_iconst (pc := 11) (dK D_Law_plan_0 8 rfl) ?_
  refine bnE h ?_
  clear h
  intro L7 e_L7 h
  refine wx_iast (Z := (S, L6)) (pc := 12) (z := 4) e_L7 (inRk rfl) (dK D_Law_plan_0 9 rfl) ?_
  refine x_dup (pc := 13) (dK D_Law_plan_0 10 rfl) rfl ?_
  refine wx_iconst (pc := 14) (dK D_Law_plan_0 11 rfl) ?_
  refine wx_bipush (pc := 15) (dK D_Law_plan_0 12 rfl) rfl ?_
  refine bnE h ?_
  clear h
  intro L8 e_L8 h
  refine wx_iast (Z := (S, L7)) (pc := 17) (z := 8) e_L8 (inRk rfl) (dK D_Law_plan_0 13 rfl) ?_
  refine x_dup (pc := 18) (dK D_Law_plan_0 14 rfl) rfl ?_
  refine wx_iconst (pc := 19) (dK D_Law_plan_0 15 rfl) ?_
  refine wx_bipush (pc := 20) (dK D_Law_plan_0 16 rfl) rfl ?_
  refine bnE h ?_
  clear h
  intro L9 e_L9 h
  refine wx_iast (Z := (S, L8)) (pc := 22) (z := 16) e_L9 (inRk rfl) (dK D_Law_plan_0 17 rfl) ?_
  refine x_dup (pc := 23) (dK D_Law_plan_0 18 rfl) rfl ?_
  refine wx_iconst (pc := 24) (dK D_Law_plan_0 19 rfl) ?_
  refine wx_bipush (pc := 25) (dK D_Law_plan_0 20 rfl) rfl ?_
  refine bnE h ?_
  clear h
  intro L10 e_L10 h
  refine wx_iast (Z := (S, L9)) (pc := 27) (z := 8) e_L10 (inRk rfl) (dK D_Law_plan_0 21 rfl) ?_
  refine x_astore (pc := 28) (ls2 := [(4, .ref r5), (3, V p1), (0, .ref c0), (1, .ref (XB + 200)), (2, V a2)]) (dK D_Law_plan_0 22 rfl) (ltK rfl) rfl ?_
  refine x_aloadn (pc := 30) (i0 := 0) (j := 2) (dK D_Law_plan_0 23 rfl) rfl rfl ?_
  refine wx_iconst (pc := 31) (dK D_Law_plan_0 24 rfl) ?_
  refine x_iloadn (pc := 32) (i0 := 3) (j := 1) (dK D_Law_plan_0 25 rfl) rfl rfl ?_
  refine wx_iconst (pc := 33) (dK D_Law_plan_0 26 rfl) ?_
  refine wx_irem (pc := 34) (dK D_Law_plan_0 27 rfl) h_p1 (inRk rfl) (by decide) ?_
  refine wx_iadd (pc := 35) (dK D_Law_plan_0 28 rfl) ?_
  refine nmE h ?_
  clear h
  intro v11 e_v11 h
  refine wtop e_v11 ?_
  refine bnE h ?_
  clear h
  intro L12 e_L12 h
  refine wx_put (Z := (S, L10)) (pc := 36) (ci := 12) (f := 0) e_L12 (dK D_Law_plan_0 29 rfl) q_768 (ltK rfl) (ltK rfl) rfl okInt ?_
  refine x_aloadn (pc := 39) (i0 := 0) (j := 2) (dK D_Law_plan_0 30 rfl) rfl rfl ?_
  refine x_aload (pc := 40) (j := 0) (dK D_Law_plan_0 31 rfl) rfl ?_
  refine x_iloadn (pc := 42) (i0 := 3) (j := 1) (dK D_Law_plan_0 32 rfl) rfl rfl ?_
  refine wx_iconst (pc := 43) (dK D_Law_plan_0 33 rfl) ?_
  refine wx_idiv (pc := 44) (dK D_Law_plan_0 34 rfl) h_p1 (inRk rfl) (by decide) ?_
  refine wx_iconst (pc := 45) (dK D_Law_plan_0 35 rfl) ?_
  refine nmE h ?_
  clear h
  intro v13 e_v13 h
  refine wsk (st' := [V 4, V v13, .ref r5, .ref c0]) (congrArg (fun z9 => [V 4, z9, .ref r5, .ref c0]) (Vn e_v13)) ?_
  refine wx_irem (pc := 46) (dK D_Law_plan_0 36 rfl) (Vn_in e_v13) (inRk rfl) (by decide) ?_
  refine nmE h ?_
  clear h
  intro v14 e_v14 h
  refine wtop e_v14 ?_
  refine bnE h ?_
  clear h
  intro v15 e_v15 h
  refine wx_iald (pc := 47) e_v15 (Vn_in e_v14) (dK D_Law_plan_0 37 rfl) ?_
  refine bnE h ?_
  clear h
  intro L16 e_L16 h
  refine wx_put (Z := (S, L12)) (pc := 48) (ci := 12) (f := 1) e_L16 (dK D_Law_plan_0 38 rfl) q_770 (ltK rfl) (ltK rfl) rfl okInt ?_
  refine gdE h ?_
  clear h
  intro hl17 h
  obtain ⟨y20, h9, e9⟩ := adE2 h
  clear h
  subst e9
  have h := h9
  clear h9
  refine nwE h ?_
  clear h
  intro r18 L19 e_r18 e_L19 h
  have hk1 := bd1 hb
  have hn1 := bd2 hb
  replace hb := bdA hb
  refine wn_new (Z := (S, L16)) (pc := 51) (ci := 15) (N := 4) e_r18 e_L19 hl17 rfl (dK D_Law_plan_0 39 rfl) (ltK rfl) q_1275 q_1276 q_33 hk1 hn1 ?_
  refine x_dup (pc := 54) (dK D_Law_plan_0 40 rfl) rfl ?_
  refine bnE h ?_
  clear h
  intro p21 e_p21 h
  obtain ⟨yp21, h9, e9⟩ := adE2 h
  clear h
  subst e9
  have h := h9
  clear h9
  have hk1 := bd1 hb
  have hn1 := bd2 hb
  replace hb := bdA hb
  refine x_callI (pc := 55) (As := []) (rest := [.ref r18]) (mc' := p21.2.1) (ms' := p21.2.2) (dK D_Law_plan_0 41 rfl) Q_Law_165 (fitK rfl) rfl (leK rfl) hk1 hn1 (tg_SB_init  e_p21) (kxU ?_)
  refine x_ldcSw (own := "FlatPlanLaw") (text := "plan ") (j := 13) rfl (dK D_Law_plan_0 42 rfl) (List.mem_of_getElem? (i := 13) rfl) ?_
  refine gdE h ?_
  clear h
  intro hk23 h
  refine bnE h ?_
  clear h
  intro p22 e_p22 h
  obtain ⟨yp22, h9, e9⟩ := adE2 h
  clear h
  subst e9
  have h := h9
  clear h9
  have hk1 := bd1 hb
  have hn1 := bd2 hb
  replace hb := bdA hb
  refine x_callX (pc := 61) (As := [.ref (XB + 13)]) (rest := []) (mc' := p22.2.1) (ms' := p22.2.2) (dK D_Law_plan_0 43 rfl) Q_Law_168 sx_SB_append (fitK rfl) (isK_at (Z := (p21.1.1, p21.1.2)) (ci := 15) hk23) rfl (leK rfl) hk1 hn1 (tg_SB_append  e_p22) (kxR (fun h_p22 => ?_))
  refine x_aloadn (pc := 64) (i0 := 0) (j := 2) (dK D_Law_plan_0 44 rfl) rfl rfl ?_
  refine bnE h ?_
  clear h
  intro v24 e_v24 h
  refine wx_getI (pc := 65) (ci := 12) (f := 0) e_v24 (dK D_Law_plan_0 45 rfl) q_768 (ltK rfl) (ltK rfl) ?_
  refine rfE h ?_
  clear h
  intro r25 e_r25 h
  rw [e_r25]
  refine gdE h ?_
  clear h
  intro hk27 h
  refine bnE h ?_
  clear h
  intro p26 e_p26 h
  obtain ⟨yp26, h9, e9⟩ := adE2 h
  clear h
  subst e9
  have h := h9
  clear h9
  have hk1 := bd1 hb
  have hn1 := bd2 hb
  replace hb := bdA hb
  refine x_callX (pc := 68) (As := [V v24]) (rest := []) (mc' := p26.2.1) (ms' := p26.2.2) (dK D_Law_plan_0 46 rfl) Q_Law_172 sx_SB_append2 (fitK rfl) (isK_at (Z := (p22.1.2.1, p22.1.2.2)) (ci := 15) hk27) rfl (leK rfl) hk1 hn1 (tg_SB_append2 (vI_at e_v24).2 e_p26) (kxR (fun h_p26 => ?_))
  refine x_ldcSw (own := "FlatPlanLaw") (text := " ") (j := 14) rfl (dK D_Law_plan_0 47 rfl) (List.mem_of_getElem? (i := 14) rfl) ?_
  refine rfE h ?_
  clear h
  intro r28 e_r28 h
  rw [e_r28]
  refine gdE h ?_
  clear h
  intro hk30 h
  refine bnE h ?_
  clear h
  intro p29 e_p29 h
  obtain ⟨yp29, h9, e9⟩ := adE2 h
  clear h
  subst e9
  have h := h9
  clear h9
  have hk1 := bd1 hb
  have hn1 := bd2 hb
  replace hb := bdA hb
  refine x_callX (pc := 74) (As := [.ref (XB + 14)]) (rest := []) (mc' := p29.2.1) (ms' := p29.2.2) (dK D_Law_plan_0 48 rfl) Q_Law_168 sx_SB_append (fitK rfl) (isK_at (Z := (p26.1.2.1, p26.1.2.2)) (ci := 15) hk30) rfl (leK rfl) hk1 hn1 (tg_SB_append  e_p29) (kxR (fun h_p29 => ?_))
  refine x_aloadn (pc := 77) (i0 := 0) (j := 2) (dK D_Law_plan_0 49 rfl) rfl rfl ?_
  refine bnE h ?_
  clear h
  intro v31 e_v31 h
  refine wx_getI (pc := 78) (ci := 12) (f := 1) e_v31 (dK D_Law_plan_1 0 rfl) q_770 (ltK rfl) (ltK rfl) ?_
  refine rfE h ?_
  clear h
  intro r32 e_r32 h
  rw [e_r32]
  refine gdE h ?_
  clear h
  intro hk34 h
  refine bnE h ?_
  clear h
  intro p33 e_p33 h
  obtain ⟨yp33, h9, e9⟩ := adE2 h
  clear h
  subst e9
  have h := h9
  clear h9
  have hk1 := bd1 hb
  have hn1 := bd2 hb
  replace hb := bdA hb
  refine x_callX (pc := 81) (As := [V v31]) (rest := []) (mc' := p33.2.1) (ms' := p33.2.2) (dK D_Law_plan_1 1 rfl) Q_Law_172 sx_SB_append2 (fitK rfl) (isK_at (Z := (p29.1.2.1, p29.1.2.2)) (ci := 15) hk34) rfl (leK rfl) hk1 hn1 (tg_SB_append2 (vI_at e_v31).2 e_p33) (kxR (fun h_p33 => ?_))
  refine x_ldcSw (own := "FlatPlanLaw") (text := ";") (j := 15) rfl (dK D_Law_plan_1 2 rfl) (List.mem_of_getElem? (i := 15) rfl) ?_
  refine rfE h ?_
  clear h
  intro r35 e_r35 h
  rw [e_r35]
  refine gdE h ?_
  clear h
  intro hk37 h
  refine bnE h ?_
  clear h
  intro p36 e_p36 h
  obtain ⟨yp36, h9, e9⟩ := adE2 h
  clear h
  subst e9
  have h := h9
  clear h9
  have hk1 := bd1 hb
  have hn1 := bd2 hb
  replace hb := bdA hb
  refine x_callX (pc := 87) (As := [.ref (XB + 15)]) (rest := []) (mc' := p36.2.1) (ms' := p36.2.2) (dK D_Law_plan_1 3 rfl) Q_Law_168 sx_SB_append (fitK rfl) (isK_at (Z := (p33.1.2.1, p33.1.2.2)) (ci := 15) hk37) rfl (leK rfl) hk1 hn1 (tg_SB_append  e_p36) (kxR (fun h_p36 => ?_))
  refine rfE h ?_
  clear h
  intro r38 e_r38 h
  rw [e_r38]
  refine gdE h ?_
  clear h
  intro hk40 h
  refine bnE h ?_
  clear h
  intro p39 e_p39 h
  obtain ⟨yp39, h9, e9⟩ := adE2 h
  clear h
  subst e9
  have h := h9
  clear h9
  have hk1 := bd1 hb
  have hn1 := bd2 hb
  replace hb := bdA hb
  refine x_callX (pc := 90) (As := []) (rest := []) (mc' := p39.2.1) (ms' := p39.2.2) (dK D_Law_plan_1 4 rfl) Q_Law_175 sx_SB_toString (fitK rfl) (isK_at (Z := (p36.1.2.1, p36.1.2.2)) (ci := 15) hk40) rfl (leK rfl) hk1 hn1 (tg_SB_toString  e_p39) (kxR (fun h_p39 => ?_))
  refine x_astoreV (pc := 93) (ls2 := [(5, p39.1.1), (4, .ref r5), (3, V p1), (0, .ref c0), (1, .ref (XB + 200)), (2, V a2)]) h_p39 (dK D_Law_plan_1 5 rfl) (ltK rfl) rfl ?_
  refine wx_iconst (pc := 95) (dK D_Law_plan_1 6 rfl) ?_
  refine x_istore (pc := 96) (ls2 := [(6, V 0), (5, p39.1.1), (4, .ref r5), (3, V p1), (0, .ref c0), (1, .ref (XB + 200)), (2, V a2)]) (dK D_Law_plan_1 7 rfl) (ltK rfl) (by simp [stI, List.filter, cato h_p39]) ?_
  refine bnE h ?_
  clear h
  intro p70 e_p70 h
  obtain ⟨yp70, h9, e9⟩ := adE2 h
  clear h
  subst e9
  have h := h9
  clear h9
  have hk1 := bd1 hb
  have hn1 := bd2 hb
  replace hb := bdA hb
  refine x_weak (ls' := [(0, .ref c0), (1, .ref (XB + 200)), (2, V a2), (3, V p1), (5, p39.1.1), (6, V 0)]) (sbc 4 rfl (sbc 5 rfl (sbc 6 rfl (sbc 3 rfl (sbc 1 rfl (sbc 0 rfl sbn)))))) ?_
  refine tl2_Law_plan_98 ha2 h_p1 hk1 hn1 FU _ _ e_p70 _ _ ⟨Nat.le_refl _, Nat.le_refl _⟩ h_p39 (inRk rfl) (fun hx5_p70 => ?_)
  refine wx_iconst (pc := 172) (dK D_Law_plan_1 43 rfl) ?_
  refine x_istore (pc := 173) (ls2 := [(6, V 0), (0, .ref c0), (1, .ref (XB + 200)), (2, V a2), (3, V p1), (5, p70.1.1)]) (dK D_Law_plan_1 44 rfl) (ltK rfl) (by simp [stI, List.filter, cato hx5_p70]) ?_
  refine bnE h ?_
  clear h
  intro p198 e_p198 h
  obtain ⟨yp198, h9, e9⟩ := adE2 h
  clear h
  subst e9
  have h := h9
  clear h9
  have hk1 := bd1 hb
  have hn1 := bd2 hb
  replace hb := bdA hb
  refine x_weak (ls' := [(0, .ref c0), (1, .ref (XB + 200)), (2, V a2), (3, V p1), (5, p70.1.1), (6, V 0)]) (sbc 1 rfl (sbc 2 rfl (sbc 3 rfl (sbc 4 rfl (sbc 5 rfl (sbc 0 rfl sbn)))))) ?_
  refine tl2_Law_plan_175 ha2 h_p1 hk1 hn1 FU _ _ e_p198 _ _ ⟨Nat.le_refl _, Nat.le_refl _⟩ hx5_p70 (inRk rfl) (fun hx5_p198 => ?_)
  refine wx_iconst (pc := 453) (dK D_Law_plan_4 29 rfl) ?_
  refine x_istore (pc := 454) (ls2 := [(6, V 0), (0, .ref c0), (1, .ref (XB + 200)), (2, V a2), (3, V p1), (5, p198.1.1)]) (dK D_Law_plan_4 30 rfl) (ltK rfl) (by simp [stI, List.filter, cato hx5_p198]) ?_
  refine bnE h ?_
  clear h
  intro p296 e_p296 h
  obtain ⟨yp296, h9, e9⟩ := adE2 h
  clear h
  subst e9
  have h := h9
  clear h9
  have hk1 := bd1 hb
  have hn1 := bd2 hb
  replace hb := bdA hb
  refine x_weak (ls' := [(0, .ref c0), (1, .ref (XB + 200)), (2, V a2), (3, V p1), (5, p198.1.1), (6, V 0)]) (sbc 1 rfl (sbc 2 rfl (sbc 3 rfl (sbc 4 rfl (sbc 5 rfl (sbc 0 rfl sbn)))))) ?_
  refine tl2_Law_plan_456 ha2 h_p1 hk1 hn1 FU _ _ e_p296 _ _ ⟨Nat.le_refl _, Nat.le_refl _⟩ hx5_p198 (inRk rfl) (fun hx5_p296 => ?_)
  refine wx_iconst (pc := 659) (dK D_Law_plan_6 30 rfl) ?_
  refine x_istore (pc := 660) (ls2 := [(6, V 0), (0, .ref c0), (1, .ref (XB + 200)), (2, V a2), (3, V p1), (5, p296.1.1)]) (dK D_Law_plan_6 31 rfl) (ltK rfl) (by simp [stI, List.filter, cato hx5_p296]) ?_
  refine bnE h ?_
  clear h
  intro p334 e_p334 h
  obtain ⟨yp334, h9, e9⟩ := adE2 h
  clear h
  subst e9
  have h := h9
  clear h9
  have hk1 := bd1 hb
  have hn1 := bd2 hb
  replace hb := bdA hb
  refine x_weak (ls' := [(0, .ref c0), (1, .ref (XB + 200)), (2, V a2), (3, V p1), (5, p296.1.1), (6, V 0)]) (sbc 1 rfl (sbc 2 rfl (sbc 3 rfl (sbc 4 rfl (sbc 5 rfl (sbc 0 rfl sbn)))))) ?_
  refine tl2_Law_plan_662 ha2 h_p1 hk1 hn1 FU _ _ e_p334 _ _ ⟨Nat.le_refl _, Nat.le_refl _⟩ hx5_p296 (inRk rfl) (fun hx5_p334 => ?_)
  refine wx_iconst (pc := 758) (dK D_Law_plan_7 29 rfl) ?_
  refine x_istore (pc := 759) (ls2 := [(6, V 0), (0, .ref c0), (1, .ref (XB + 200)), (2, V a2), (5, p334.1.1)]) (dK D_Law_plan_7 30 rfl) (ltK rfl) (by simp [stI, List.filter, cato hx5_p334]) ?_
  refine bnE h ?_
  clear h
  intro p385 e_p385 h
  obtain ⟨yp385, h9, e9⟩ := adE2 h
  clear h
  subst e9
  have h := h9
  clear h9
  have hk1 := bd1 hb
  have hn1 := bd2 hb
  replace hb := bdA hb
  refine x_weak (ls' := [(0, .ref c0), (1, .ref (XB + 200)), (2, V a2), (5, p334.1.1), (6, V 0)]) (sbc 1 rfl (sbc 2 rfl (sbc 3 rfl (sbc 4 rfl (sbc 0 rfl sbn))))) ?_
  refine tl2_Law_plan_761 ha2 hk1 hn1 FU _ _ e_p385 _ _ ⟨Nat.le_refl _, Nat.le_refl _⟩ hx5_p334 (inRk rfl) (fun hx5_p385 => ?_)
  refine wx_iconst (pc := 884) (dK D_Law_plan_8 47 rfl) ?_
  refine x_istore (pc := 885) (ls2 := [(6, V 0), (0, .ref c0), (1, .ref (XB + 200)), (2, V a2), (5, p385.1.1)]) (dK D_Law_plan_8 48 rfl) (ltK rfl) (by simp [stI, List.filter, cato hx5_p385]) ?_
  refine bnE h ?_
  clear h
  intro p441 e_p441 h
  obtain ⟨yp441, h9, e9⟩ := adE2 h
  clear h
  subst e9
  have h := h9
  clear h9
  have hk1 := bd1 hb
  have hn1 := bd2 hb
  replace hb := bdA hb
  refine x_weak (ls' := [(0, .ref c0), (1, .ref (XB + 200)), (2, V a2), (5, p385.1.1), (6, V 0)]) (sbc 1 rfl (sbc 2 rfl (sbc 3 rfl (sbc 4 rfl (sbc 0 rfl sbn))))) ?_
  refine tl2_Law_plan_887 ha2 hk1 hn1 FU _ _ e_p441 _ _ ⟨Nat.le_refl _, Nat.le_refl _⟩ hx5_p385 (inRk rfl) (fun hx5_p441 => ?_)
  refine x_aloadV (pc := 1011) (j := 0) hx5_p441 (dK D_Law_plan_10 3 rfl) rfl ?_
  obtain rfl := Option.some.inj h
  exact wk_aret (pc := 1013) hx5_p441 (dK D_Law_plan_10 4 rfl) rfl (by first | exact .inl ⟨_, rfl⟩ | exact .inr ⟨_, rfl⟩) (bdk hb) (bdn hb) ⟨rfl, hx5_p441, rfl⟩
theorem tg_Law_plan {sc : SC} {c0 : Nat} {a2 : Int} (ha2 : inR a2) {S : St} {L : List PC} {q : (Value × LZ) × Nat × Nat} (h : gn_Law_plan sc c0 a2 S L = some q) : EvX sc M_Law_plan [.ref c0, .ref (XB + 200), V a2] (wz (S, L)) q.2.1 q.2.2 (KXR q.1.1 q.1.2) := EvX.of pn2_Law rfl (leK rfl) (te_Law_plan ha2 h ⟨Nat.le_of_eq (Nat.zero_add _), Nat.le_of_eq (Nat.zero_add _)⟩)
