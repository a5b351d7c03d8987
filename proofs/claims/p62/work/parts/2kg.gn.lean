def lb2_LP_storyReason_47 (c0 : Nat) (c1 : Nat) (a2 : Int) (a3 : Int) (S : St) (L : List PC) (go : Int × Int → Option (Int)) (a4 : Int) (a5 : Int) : Option (Int) := bnO (gfI L c1 11 0) fun v9 => nm (wr (a2 + v9)) fun v10 => if v10 ≤ a5 then (some a4) else (if isK L c0 12 = true then (bnO (gn_LP_isShut c0 a5 S L) fun p11 => if p11 = true then (nm (wr (a5 + 1)) fun v29 => go ((i_min a4 2), v29)) else (if isK L c0 12 = true then (bnO (gn_LP_left c0 a5 S L) fun p14 => if 4 ≤ p14 then (bnO (gfI L c1 11 6) fun v16 => if v16 = 0 then (nm (wr (a5 + 1)) fun v17 => go ((i_min a4 9), v17)) else (bnO (gfV L c0 12 7) fun v18 => if isK L c0 12 = true then (bnO (gn_LP_form c0 a5 S L) fun p19 => rfB v18 fun r21 => bnO (ald L 2 r21 p19) fun v22 => if v22 = 0 then (nm (wr (a5 + 1)) fun v24 => go ((i_min a4 4), v24)) else (nm (wr (a5 + 1)) fun v23 => go ((i_min a4 9), v23))) else none)) else (nm (wr (a5 + 1)) fun v27 => go ((i_min a4 3), v27))) else none)) else none)
def lo2_LP_storyReason_47 (c0 : Nat) (c1 : Nat) (a2 : Int) (a3 : Int) (S : St) (L : List PC) : Nat → Int × Int → Option (Int) := lp fun go p => lb2_LP_storyReason_47 c0 c1 a2 a3 S L go p.1 p.2
theorem tl2_LP_storyReason_47 {sc : SC} {c0 : Nat} {c1 : Nat} {a2 : Int} (ha2 : inR a2) {a3 : Int} (ha3 : inR a3) {K : Option Value → List PC → Prop} {S : St} {L : List PC} {mc ms k n : Nat} (hk0 : k ≤ mc) (hn0 : n ≤ ms) : ∀ (N : Nat) (a : Int × Int) (q : Int), lo2_LP_storyReason_47 c0 c1 a2 a3 S L N a = some q → inR a.1 → inR a.2 → (inR q → GX sc M_LP_storyReason mc ms 125 [(0, .ref c0), (1, .ref c1), (2, V a2), (3, V a3), (4, V q)] [] (wz (S, L)) k n K) → GX sc M_LP_storyReason mc ms 47 [(0, .ref c0), (1, .ref c1), (2, V a2), (3, V a3), (4, V a.1), (5, V a.2)] [] (wz (S, L)) k n K := by
  refine lp_ind2 (P := fun (a : Int × Int) (q : Int) => inR a.1 → inR a.2 → (inR q → GX sc M_LP_storyReason mc ms 125 [(0, .ref c0), (1, .ref c1), (2, V a2), (3, V a3), (4, V q)] [] (wz (S, L)) k n K) → GX sc M_LP_storyReason mc ms 47 [(0, .ref c0), (1, .ref c1), (2, V a2), (3, V a3), (4, V a.1), (5, V a.2)] [] (wz (S, L)) k n K) (fun go ih a q h => ?_)
  obtain ⟨a4, a5⟩ := a
  intro ha4 ha5 hx
  show GX sc M_LP_storyReason mc ms 47 [(0, .ref c0), (1, .ref c1), (2, V a2), (3, V a3), (4, V a4), (5, V a5)] [] (wz (S, L)) k n K
  replace h : lb2_LP_storyReason_47 c0 c1 a2 a3 S L go a4 a5 = some q := h
  unfold lb2_LP_storyReason_47 at h
  refine x_iload (pc := 47) (j := 5) (dK D_LP_storyReason_0 28 rfl) rfl ?_
  refine x_iloadn (pc := 49) (i0 := 2) (j := 2) (dK D_LP_storyReason_0 29 rfl) rfl rfl ?_
  refine x_aloadn (pc := 50) (i0 := 1) (j := 1) (dK D_LP_storyReason_0 30 rfl) rfl rfl ?_
  refine bnE h ?_
  clear h
  intro v9 e_v9 h
  refine wx_getI (pc := 51) (ci := 11) (f := 0) e_v9 (dK D_LP_storyReason_0 31 rfl) q_873 (ltK rfl) (ltK rfl) ?_
  refine wx_iadd (pc := 54) (dK D_LP_storyReason_0 32 rfl) ?_
  refine nmE h ?_
  clear h
  intro v10 e_v10 h
  refine wtop e_v10 ?_
  refine wx_icmp_ge (pc := 55) (t := 125) (dK D_LP_storyReason_0 33 rfl) rfl ha5 (Vn_in e_v10) (fun hc30 => ?_) (fun hc30 => ?_)
  · replace h := ifP h hc30
    obtain rfl := Option.some.inj h
    refine x_weak (ls' := [(0, .ref c0), (1, .ref c1), (2, V a2), (3, V a3), (4, V a4)]) (sbc 0 rfl (sbc 1 rfl (sbc 2 rfl (sbc 3 rfl (sbc 4 rfl sbn))))) ?_
    exact hx ha4
  · replace h := ifN h hc30
    refine x_iload (pc := 58) (j := 4) (dK D_LP_storyReason_0 34 rfl) rfl ?_
    refine x_aloadn (pc := 60) (i0 := 0) (j := 0) (dK D_LP_storyReason_0 35 rfl) rfl rfl ?_
    refine x_iload (pc := 61) (j := 5) (dK D_LP_storyReason_0 36 rfl) rfl ?_
    refine gdE h ?_
    clear h
    intro hk12 h
    refine bnE h ?_
    clear h
    intro p11 e_p11 h
    refine x_callX (pc := 63) (As := [V a5]) (rest := [V a4]) (mc' := 0) (ms' := 0) (dK D_LP_storyReason_0 37 rfl) Q_LP_117 sx_LP_isShut (fitK rfl) (isK_at (Z := (S, L)) (ci := 12) hk12) rfl (leK rfl) hk0 hn0 (tg_LP_isShut ha5 e_p11) (kxB' ?_)
    refine wx_ifB_eq (pc := 66) (b := p11) (t := 73) (dK D_LP_storyReason_0 38 rfl) rfl (fun hc13 => ?_) (fun hc13 => ?_)
    · replace h := ifP h hc13
      refine wx_iconst (pc := 69) (dK D_LP_storyReason_0 39 rfl) ?_
      refine x_goto (pc := 70) (tgt := 114) (dK D_LP_storyReason_0 40 rfl) rfl ?_
      refine wx_mmin (pc := 114) (dK D_LP_storyReason_1 11 rfl) q_1658 (leK rfl) (leK rfl) hk0 hn0 ha4 (inRk rfl) ?_
      refine x_istore (pc := 117) (ls2 := [(4, V (i_min a4 2)), (0, .ref c0), (1, .ref c1), (2, V a2), (3, V a3), (5, V a5)]) (dK D_LP_storyReason_1 12 rfl) (ltK rfl) rfl ?_
      refine nmE h ?_
      clear h
      intro v29 e_v29 h
      refine wx_iinc (pc := 119) (j := 5) (a := a5) (z := 1) (ls2 := [(5, V v29), (4, V (i_min a4 2)), (0, .ref c0), (1, .ref c1), (2, V a2), (3, V a3)]) (dK D_LP_storyReason_1 13 rfl) rfl e_v29 (ltK rfl) rfl ?_
      refine x_goto (pc := 122) (tgt := 47) (dK D_LP_storyReason_1 14 rfl) rfl ?_
      refine x_weak (ls' := [(0, .ref c0), (1, .ref c1), (2, V a2), (3, V a3), (4, V (i_min a4 2)), (5, V v29)]) (sbc 2 rfl (sbc 3 rfl (sbc 4 rfl (sbc 5 rfl (sbc 1 rfl (sbc 0 rfl sbn)))))) ?_
      replace h := ih _ _ h
      exact h (i_min_in ha4 (inRk rfl)) (Vn_in e_v29) hx
    · replace h := ifN h hc13
      refine x_aloadn (pc := 73) (i0 := 0) (j := 0) (dK D_LP_storyReason_0 41 rfl) rfl rfl ?_
      refine x_iload (pc := 74) (j := 5) (dK D_LP_storyReason_0 42 rfl) rfl ?_
      refine gdE h ?_
      clear h
      intro hk15 h
      refine bnE h ?_
      clear h
      intro p14 e_p14 h
      refine x_callX (pc := 76) (As := [V a5]) (rest := [V a4]) (mc' := 0) (ms' := 0) (dK D_LP_storyReason_0 43 rfl) Q_LP_114 sx_LP_left (fitK rfl) (isK_at (Z := (S, L)) (ci := 12) hk15) rfl (leK rfl) hk0 hn0 (tg_LP_left ha5 e_p14) (kxI' (fun h_p14 => ?_))
      refine wx_iconst (pc := 79) (dK D_LP_storyReason_0 44 rfl) ?_
      refine wx_icmp_ge (pc := 80) (t := 87) (dK D_LP_storyReason_0 45 rfl) rfl h_p14 (inRk rfl) (fun hc28 => ?_) (fun hc28 => ?_)
      · replace h := ifP h hc28
        refine x_aloadn (pc := 87) (i0 := 1) (j := 1) (dK D_LP_storyReason_0 48 rfl) rfl rfl ?_
        refine bnE h ?_
        clear h
        intro v16 e_v16 h
        refine wx_getI (pc := 88) (ci := 11) (f := 6) e_v16 (dK D_LP_storyReason_0 49 rfl) q_892 (ltK rfl) (ltK rfl) ?_
        refine wx_if_eq (pc := 91) (t := 112) (dK D_LP_storyReason_1 0 rfl) rfl (vI_at e_v16).2 (fun hc26 => ?_) (fun hc26 => ?_)
        · replace h := ifP h hc26
          refine wx_bipush (pc := 112) (dK D_LP_storyReason_1 10 rfl) rfl ?_
          refine wx_mmin (pc := 114) (dK D_LP_storyReason_1 11 rfl) q_1658 (leK rfl) (leK rfl) hk0 hn0 ha4 (inRk rfl) ?_
          refine x_istore (pc := 117) (ls2 := [(4, V (i_min a4 9)), (0, .ref c0), (1, .ref c1), (2, V a2), (3, V a3), (5, V a5)]) (dK D_LP_storyReason_1 12 rfl) (ltK rfl) rfl ?_
          refine nmE h ?_
          clear h
          intro v17 e_v17 h
          refine wx_iinc (pc := 119) (j := 5) (a := a5) (z := 1) (ls2 := [(5, V v17), (4, V (i_min a4 9)), (0, .ref c0), (1, .ref c1), (2, V a2), (3, V a3)]) (dK D_LP_storyReason_1 13 rfl) rfl e_v17 (ltK rfl) rfl ?_
          refine x_goto (pc := 122) (tgt := 47) (dK D_LP_storyReason_1 14 rfl) rfl ?_
          refine x_weak (ls' := [(0, .ref c0), (1, .ref c1), (2, V a2), (3, V a3), (4, V (i_min a4 9)), (5, V v17)]) (sbc 2 rfl (sbc 3 rfl (sbc 4 rfl (sbc 5 rfl (sbc 1 rfl (sbc 0 rfl sbn)))))) ?_
          replace h := ih _ _ h
          exact h (i_min_in ha4 (inRk rfl)) (Vn_in e_v17) hx
        · replace h := ifN h hc26
          refine x_aloadn (pc := 94) (i0 := 0) (j := 0) (dK D_LP_storyReason_1 1 rfl) rfl rfl ?_
          refine bnE h ?_
          clear h
          intro v18 e_v18 h
          refine wx_getV (pc := 95) (ci := 12) (f := 7) e_v18 (dK D_LP_storyReason_1 2 rfl) q_781 (ltK rfl) (ltK rfl) (fun hv18 => ?_)
          refine x_aloadn (pc := 98) (i0 := 0) (j := 0) (dK D_LP_storyReason_1 3 rfl) rfl rfl ?_
          refine x_iload (pc := 99) (j := 5) (dK D_LP_storyReason_1 4 rfl) rfl ?_
          refine gdE h ?_
          clear h
          intro hk20 h
          refine bnE h ?_
          clear h
          intro p19 e_p19 h
          refine x_callX (pc := 101) (As := [V a5]) (rest := [v18, V a4]) (mc' := 0) (ms' := 0) (dK D_LP_storyReason_1 5 rfl) Q_LP_79 sx_LP_form (fitK rfl) (isK_at (Z := (S, L)) (ci := 12) hk20) rfl (by simp only [List.map_cons, List.map_nil, cato hv18]; exact leK rfl) hk0 hn0 (tg_LP_form ha5 e_p19) (kxI' (fun h_p19 => ?_))
          refine rfE h ?_
          clear h
          intro r21 e_r21 h
          rw [e_r21]
          refine bnE h ?_
          clear h
          intro v22 e_v22 h
          refine wx_zald (pc := 104) e_v22 h_p19 (dK D_LP_storyReason_1 6 rfl) ?_
          refine wx_if_ne (pc := 105) (t := 112) (dK D_LP_storyReason_1 7 rfl) rfl (vI_at e_v22).2 (fun hc25 => ?_) (fun hc25 => ?_)
          · replace h := ifN h hc25
            refine wx_bipush (pc := 112) (dK D_LP_storyReason_1 10 rfl) rfl ?_
            refine wx_mmin (pc := 114) (dK D_LP_storyReason_1 11 rfl) q_1658 (leK rfl) (leK rfl) hk0 hn0 ha4 (inRk rfl) ?_
            refine x_istore (pc := 117) (ls2 := [(4, V (i_min a4 9)), (0, .ref c0), (1, .ref c1), (2, V a2), (3, V a3), (5, V a5)]) (dK D_LP_storyReason_1 12 rfl) (ltK rfl) rfl ?_
            refine nmE h ?_
            clear h
            intro v23 e_v23 h
            refine wx_iinc (pc := 119) (j := 5) (a := a5) (z := 1) (ls2 := [(5, V v23), (4, V (i_min a4 9)), (0, .ref c0), (1, .ref c1), (2, V a2), (3, V a3)]) (dK D_LP_storyReason_1 13 rfl) rfl e_v23 (ltK rfl) rfl ?_
            refine x_goto (pc := 122) (tgt := 47) (dK D_LP_storyReason_1 14 rfl) rfl ?_
            refine x_weak (ls' := [(0, .ref c0), (1, .ref c1), (2, V a2), (3, V a3), (4, V (i_min a4 9)), (5, V v23)]) (sbc 2 rfl (sbc 3 rfl (sbc 4 rfl (sbc 5 rfl (sbc 1 rfl (sbc 0 rfl sbn)))))) ?_
            replace h := ih _ _ h
            exact h (i_min_in ha4 (inRk rfl)) (Vn_in e_v23) hx
          · replace h := ifP h hc25
            refine wx_iconst (pc := 108) (dK D_LP_storyReason_1 8 rfl) ?_
            refine x_goto (pc := 109) (tgt := 114) (dK D_LP_storyReason_1 9 rfl) rfl ?_
            refine wx_mmin (pc := 114) (dK D_LP_storyReason_1 11 rfl) q_1658 (leK rfl) (leK rfl) hk0 hn0 ha4 (inRk rfl) ?_
            refine x_istore (pc := 117) (ls2 := [(4, V (i_min a4 4)), (0, .ref c0), (1, .ref c1), (2, V a2), (3, V a3), (5, V a5)]) (dK D_LP_storyReason_1 12 rfl) (ltK rfl) rfl ?_
            refine nmE h ?_
            clear h
            intro v24 e_v24 h
            refine wx_iinc (pc := 119) (j := 5) (a := a5) (z := 1) (ls2 := [(5, V v24), (4, V (i_min a4 4)), (0, .ref c0), (1, .ref c1), (2, V a2), (3, V a3)]) (dK D_LP_storyReason_1 13 rfl) rfl e_v24 (ltK rfl) rfl ?_
            refine x_goto (pc := 122) (tgt := 47) (dK D_LP_storyReason_1 14 rfl) rfl ?_
            refine x_weak (ls' := [(0, .ref c0), (1, .ref c1), (2, V a2), (3, V a3), (4, V (i_min a4 4)), (5, V v24)]) (sbc 2 rfl (sbc 3 rfl (sbc 4 rfl (sbc 5 rfl (sbc 1 rfl (sbc 0 rfl sbn)))))) ?_
            replace h := ih _ _ h
            exact h (i_min_in ha4 (inRk rfl)) (Vn_in e_v24) hx
      · replace h := ifN h hc28
        refine wx_iconst (pc := 83) (dK D_LP_storyReason_0 46 rfl) ?_
        refine x_goto (pc := 84) (tgt := 114) (dK D_LP_storyReason_0 47 rfl) rfl ?_
        refine wx_mmin (pc := 114) (dK D_LP_storyReason_1 11 rfl) q_1658 (leK rfl) (leK rfl) hk0 hn0 ha4 (inRk rfl) ?_
        refine x_istore (pc := 117) (ls2 := [(4, V (i_min a4 3)), (0, .ref c0), (1, .ref c1), (2, V a2), (3, V a3), (5, V a5)]) (dK D_LP_storyReason_1 12 rfl) (ltK rfl) rfl ?_
        refine nmE h ?_
        clear h
        intro v27 e_v27 h
        refine wx_iinc (pc := 119) (j := 5) (a := a5) (z := 1) (ls2 := [(5, V v27), (4, V (i_min a4 3)), (0, .ref c0), (1, .ref c1), (2, V a2), (3, V a3)]) (dK D_LP_storyReason_1 13 rfl) rfl e_v27 (ltK rfl) rfl ?_
        refine x_goto (pc := 122) (tgt := 47) (dK D_LP_storyReason_1 14 rfl) rfl ?_
        refine x_weak (ls' := [(0, .ref c0), (1, .ref c1), (2, V a2), (3, V a3), (4, V (i_min a4 3)), (5, V v27)]) (sbc 2 rfl (sbc 3 rfl (sbc 4 rfl (sbc 5 rfl (sbc 1 rfl (sbc 0 rfl sbn)))))) ?_
        replace h := ih _ _ h
        exact h (i_min_in ha4 (inRk rfl)) (Vn_in e_v27) hx
def gn_LP_storyReason (c0 : Nat) (c1 : Nat) (a2 : Int) (S : St) (L : List PC) : Option ((Int × LZ) × Nat × Nat) := if a2 < 1 then (some ((1, (S, L)), 0, 0)) else (if isK L c0 12 = true then (bnO (gn_LP_pages c0 S L) fun p1 => if p1 < a2 then (some ((1, (S, L)), 0, 0)) else (bnO (gfI L c1 11 0) fun v3 => if isK L c0 12 = true then (bnO (gn_LP_pages c0 S L) fun p4 => nm (wr ((a2 + v3) - 1)) fun v6 => if v6 ≤ p4 then (bnO (gfI L c1 11 5) fun v7 => bnO (pf L c1 11 5 (V 0)) fun L8 => bnO (lo2_LP_storyReason_47 c0 c1 a2 v7 S L8 FU (9, a2)) fun p31 => bnO (pf L8 c1 11 5 (V v7)) fun L32 => if 9 ≤ p31 then (if isK L32 c0 12 = true then (bnO (gn_LP_sided c0 c1 a2 S L32) fun p33 => if p33 = true then (some ((0, (S, L32)), 0, 0)) else (some ((5, (S, L32)), 0, 0))) else none) else (some ((p31, (S, L32)), 0, 0))) else (some ((1, (S, L)), 0, 0))) else none)) else none)
theorem te_LP_storyReason {sc : SC} {c0 : Nat} {c1 : Nat} {a2 : Int} (ha2 : inR a2) {S : St} {L : List PC} {q : (Int × LZ) × Nat × Nat} (h : gn_LP_storyReason c0 c1 a2 S L = some q) {mc ms k n : Nat} (hb : Bd k n mc ms q) : GX sc M_LP_storyReason mc ms 0 [(0, .ref c0), (1, .ref c1), (2, V a2)] [] (wz (S, L)) k n (KXI q.1.1 q.1.2) := by
  unfold gn_LP_storyReason at h
  refine x_iloadn (pc := 0) (i0 := 2) (j := 2) (dK D_LP_storyReason_0 0 rfl) rfl rfl ?_
  refine wx_iconst (pc := 1) (dK D_LP_storyReason_0 1 rfl) ?_
  refine wx_icmp_lt (pc := 2) (t := 28) (dK D_LP_storyReason_0 2 rfl) rfl ha2 (inRk rfl) (fun hc39 => ?_) (fun hc39 => ?_)
  · replace h := ifP h hc39
    refine wx_iconst (pc := 28) (dK D_LP_storyReason_0 16 rfl) ?_
    obtain rfl := Option.some.inj h
    exact wk_iretI (pc := 29) (dK D_LP_storyReason_0 17 rfl) rfl (bdk hb) (bdn hb) ⟨rfl, (inRk rfl), rfl⟩
  · replace h := ifN h hc39
    refine x_iloadn (pc := 5) (i0 := 2) (j := 2) (dK D_LP_storyReason_0 3 rfl) rfl rfl ?_
    refine x_aloadn (pc := 6) (i0 := 0) (j := 0) (dK D_LP_storyReason_0 4 rfl) rfl rfl ?_
    refine gdE h ?_
    clear h
    intro hk2 h
    refine bnE h ?_
    clear h
    intro p1 e_p1 h
    refine x_callX (pc := 7) (As := []) (rest := [V a2]) (mc' := 0) (ms' := 0) (dK D_LP_storyReason_0 5 rfl) Q_LP_111 sx_LP_pages (fitK rfl) (isK_at (Z := (S, L)) (ci := 12) hk2) rfl (leK rfl) (bdk hb) (bdn hb) (tg_LP_pages  e_p1) (kxI' (fun h_p1 => ?_))
    refine wx_icmp_gt (pc := 10) (t := 28) (dK D_LP_storyReason_0 6 rfl) rfl ha2 h_p1 (fun hc38 => ?_) (fun hc38 => ?_)
    · replace h := ifP h hc38
      refine wx_iconst (pc := 28) (dK D_LP_storyReason_0 16 rfl) ?_
      obtain rfl := Option.some.inj h
      exact wk_iretI (pc := 29) (dK D_LP_storyReason_0 17 rfl) rfl (bdk hb) (bdn hb) ⟨rfl, (inRk rfl), rfl⟩
    · replace h := ifN h hc38
      refine x_iloadn (pc := 13) (i0 := 2) (j := 2) (dK D_LP_storyReason_0 7 rfl) rfl rfl ?_
      refine x_aloadn (pc := 14) (i0 := 1) (j := 1) (dK D_LP_storyReason_0 8 rfl) rfl rfl ?_
      refine bnE h ?_
      clear h
      intro v3 e_v3 h
      refine wx_getI (pc := 15) (ci := 11) (f := 0) e_v3 (dK D_LP_storyReason_0 9 rfl) q_873 (ltK rfl) (ltK rfl) ?_
      refine wx_iadd (pc := 18) (dK D_LP_storyReason_0 10 rfl) ?_
      refine wx_iconst (pc := 19) (dK D_LP_storyReason_0 11 rfl) ?_
      refine wx_isub (pc := 20) (dK D_LP_storyReason_0 12 rfl) ?_
      refine x_aloadn (pc := 21) (i0 := 0) (j := 0) (dK D_LP_storyReason_0 13 rfl) rfl rfl ?_
      refine gdE h ?_
      clear h
      intro hk5 h
      refine bnE h ?_
      clear h
      intro p4 e_p4 h
      refine x_callX (pc := 22) (As := []) (rest := [V ((a2 + v3) - 1)]) (mc' := 0) (ms' := 0) (dK D_LP_storyReason_0 14 rfl) Q_LP_111 sx_LP_pages (fitK rfl) (isK_at (Z := (S, L)) (ci := 12) hk5) rfl (leK rfl) (bdk hb) (bdn hb) (tg_LP_pages  e_p4) (kxI' (fun h_p4 => ?_))
      refine nmE h ?_
      clear h
      intro v6 e_v6 h
      refine wsk (st' := [V p4, V v6]) (congrArg (fun z9 => [V p4, z9]) (Vn e_v6)) ?_
      refine wx_icmp_le (pc := 25) (t := 30) (dK D_LP_storyReason_0 15 rfl) rfl (Vn_in e_v6) h_p4 (fun hc37 => ?_) (fun hc37 => ?_)
      · replace h := ifP h hc37
        refine x_aloadn (pc := 30) (i0 := 1) (j := 1) (dK D_LP_storyReason_0 18 rfl) rfl rfl ?_
        refine bnE h ?_
        clear h
        intro v7 e_v7 h
        refine wx_getI (pc := 31) (ci := 11) (f := 5) e_v7 (dK D_LP_storyReason_0 19 rfl) q_888 (ltK rfl) (ltK rfl) ?_
        refine x_istoren (pc := 34) (i0 := 3) (ls2 := [(3, V v7), (0, .ref c0), (1, .ref c1), (2, V a2)]) (dK D_LP_storyReason_0 20 rfl) rfl (ltK rfl) rfl ?_
        refine x_aloadn (pc := 35) (i0 := 1) (j := 2) (dK D_LP_storyReason_0 21 rfl) rfl rfl ?_
        refine wx_iconst (pc := 36) (dK D_LP_storyReason_0 22 rfl) ?_
        refine bnE h ?_
        clear h
        intro L8 e_L8 h
        refine wx_put (Z := (S, L)) (pc := 37) (ci := 11) (f := 5) e_L8 (dK D_LP_storyReason_0 23 rfl) q_888 (ltK rfl) (ltK rfl) rfl okInt ?_
        refine wx_bipush (pc := 40) (dK D_LP_storyReason_0 24 rfl) rfl ?_
        refine x_istore (pc := 42) (ls2 := [(4, V 9), (3, V v7), (0, .ref c0), (1, .ref c1), (2, V a2)]) (dK D_LP_storyReason_0 25 rfl) (ltK rfl) rfl ?_
        refine x_iloadn (pc := 44) (i0 := 2) (j := 4) (dK D_LP_storyReason_0 26 rfl) rfl rfl ?_
        refine x_istore (pc := 45) (ls2 := [(5, V a2), (4, V 9), (3, V v7), (0, .ref c0), (1, .ref c1), (2, V a2)]) (dK D_LP_storyReason_0 27 rfl) (ltK rfl) rfl ?_
        refine bnE h ?_
        clear h
        intro p31 e_p31 h
        refine x_weak (ls' := [(0, .ref c0), (1, .ref c1), (2, V a2), (3, V v7), (4, V 9), (5, V a2)]) (sbc 3 rfl (sbc 4 rfl (sbc 5 rfl (sbc 2 rfl (sbc 1 rfl (sbc 0 rfl sbn)))))) ?_
        refine tl2_LP_storyReason_47 ha2 (vI_at e_v7).2 (bdk hb) (bdn hb) FU _ _ e_p31 (inRk rfl) ha2 (fun hx4_p31 => ?_)
        refine x_aloadn (pc := 125) (i0 := 1) (j := 1) (dK D_LP_storyReason_1 15 rfl) rfl rfl ?_
        refine x_iloadn (pc := 126) (i0 := 3) (j := 3) (dK D_LP_storyReason_1 16 rfl) rfl rfl ?_
        refine bnE h ?_
        clear h
        intro L32 e_L32 h
        refine wx_put (Z := (S, L8)) (pc := 127) (ci := 11) (f := 5) e_L32 (dK D_LP_storyReason_1 17 rfl) q_888 (ltK rfl) (ltK rfl) rfl okInt ?_
        refine x_iload (pc := 130) (j := 4) (dK D_LP_storyReason_1 18 rfl) rfl ?_
        refine wx_bipush (pc := 132) (dK D_LP_storyReason_1 19 rfl) rfl ?_
        refine wx_icmp_ge (pc := 134) (t := 142) (dK D_LP_storyReason_1 20 rfl) rfl hx4_p31 (inRk rfl) (fun hc36 => ?_) (fun hc36 => ?_)
        · replace h := ifP h hc36
          refine x_aloadn (pc := 142) (i0 := 0) (j := 0) (dK D_LP_storyReason_1 23 rfl) rfl rfl ?_
          refine x_aloadn (pc := 143) (i0 := 1) (j := 1) (dK D_LP_storyReason_1 24 rfl) rfl rfl ?_
          refine x_iloadn (pc := 144) (i0 := 2) (j := 2) (dK D_LP_storyReason_1 25 rfl) rfl rfl ?_
          refine gdE h ?_
          clear h
          intro hk34 h
          refine bnE h ?_
          clear h
          intro p33 e_p33 h
          refine x_callX (pc := 145) (As := [.ref c1, V a2]) (rest := []) (mc' := 0) (ms' := 0) (dK D_LP_storyReason_1 26 rfl) Q_LP_124 sx_LP_sided (fitK rfl) (isK_at (Z := (S, L32)) (ci := 12) hk34) rfl (leK rfl) (bdk hb) (bdn hb) (tg_LP_sided ha2 e_p33) (kxB' ?_)
          refine wx_ifB_eq (pc := 148) (b := p33) (t := 155) (dK D_LP_storyReason_1 27 rfl) rfl (fun hc35 => ?_) (fun hc35 => ?_)
          · replace h := ifP h hc35
            refine wx_iconst (pc := 151) (dK D_LP_storyReason_1 28 rfl) ?_
            refine x_goto (pc := 152) (tgt := 156) (dK D_LP_storyReason_1 29 rfl) rfl ?_
            obtain rfl := Option.some.inj h
            exact wk_iretI (pc := 156) (dK D_LP_storyReason_1 31 rfl) rfl (bdk hb) (bdn hb) ⟨rfl, (inRk rfl), rfl⟩
          · replace h := ifN h hc35
            refine wx_iconst (pc := 155) (dK D_LP_storyReason_1 30 rfl) ?_
            obtain rfl := Option.some.inj h
            exact wk_iretI (pc := 156) (dK D_LP_storyReason_1 31 rfl) rfl (bdk hb) (bdn hb) ⟨rfl, (inRk rfl), rfl⟩
        · replace h := ifN h hc36
          refine x_iload (pc := 137) (j := 4) (dK D_LP_storyReason_1 21 rfl) rfl ?_
          refine x_goto (pc := 139) (tgt := 156) (dK D_LP_storyReason_1 22 rfl) rfl ?_
          obtain rfl := Option.some.inj h
          exact wk_iretI (pc := 156) (dK D_LP_storyReason_1 31 rfl) rfl (bdk hb) (bdn hb) ⟨rfl, hx4_p31, rfl⟩
      · replace h := ifN h hc37
        refine wx_iconst (pc := 28) (dK D_LP_storyReason_0 16 rfl) ?_
        obtain rfl := Option.some.inj h
        exact wk_iretI (pc := 29) (dK D_LP_storyReason_0 17 rfl) rfl (bdk hb) (bdn hb) ⟨rfl, (inRk rfl), rfl⟩
theorem tg_LP_storyReason {sc : SC} {c0 : Nat} {c1 : Nat} {a2 : Int} (ha2 : inR a2) {S : St} {L : List PC} {q : (Int × LZ) × Nat × Nat} (h : gn_LP_storyReason c0 c1 a2 S L = some q) : EvX sc M_LP_storyReason [.ref c0, .ref c1, V a2] (wz (S, L)) q.2.1 q.2.2 (KXI q.1.1 q.1.2) := EvX.of pn2_LP rfl (leK rfl) (te_LP_storyReason ha2 h ⟨Nat.le_of_eq (Nat.zero_add _), Nat.le_of_eq (Nat.zero_add _)⟩)
def jf2_LP_joins_56_3 (rc : Nat → Int → Nat → Nat → St → List PC → Option ((Bool × LZ) × Nat × Nat)) (c0 : Nat) (a1 : Int) (c2 : Nat) (c3 : Nat) (go : Int × LZ → Option (((Bool × LZ) ⊕ (LZ)) × Nat × Nat)) (a4 : Int) (S : St) (L : List PC) : Option (((Bool × LZ) ⊕ (LZ)) × Nat × Nat) := bnO (ast L 102 c3 a4 (V (i_nz 1))) fun L12 => bnO (ald L12 0 c2 a4) fun v13 => if v13 < 0 then (bnO (ast L12 100 c2 a4 (V a1)) fun L14 => some (.inl (true, (S, L14)), 0, 0)) else (bnO (ald L12 0 c2 a4) fun v15 => if isK L12 c0 12 = true then (bnO (rc c0 v15 c2 c3 S L12) fun p16 => adC p16.2.1 p16.2.2 (if p16.1.1 = true then (bnO (ast p16.1.2.2 100 c2 a4 (V a1)) fun L19 => some (.inl (true, (p16.1.2.1, L19)), 0, 0)) else (nm (wr (a4 + 1)) fun v20 => go (v20, (p16.1.2.1, p16.1.2.2))))) else none)
theorem tj2_LP_joins_56_3 {sc : SC} {d : Nat} {rc : Nat → Int → Nat → Nat → St → List PC → Option ((Bool × LZ) × Nat × Nat)} (ihd : ∀ c0 a1 c2 c3 S L, inR a1 → ∀ {q}, rc c0 a1 c2 c3 S L = some q → EvX sc (MJ d) [.ref c0, V a1, .ref c2, .ref c3] (wz (S, L)) q.2.1 q.2.2 (KXB q.1.1 q.1.2)) {c0 : Nat} {a1 : Int} (ha1 : inR a1) {c2 : Nat} {c3 : Nat} {K : Option Value → List PC → Prop} {mc ms kt nt : Nat} (hkt : kt ≤ mc) (hnt : nt ≤ ms) {go : Int × LZ → Option (((Bool × LZ) ⊕ (LZ)) × Nat × Nat)} (ih : ∀ (a : Int × LZ) (q : ((Bool × LZ) ⊕ (LZ)) × Nat × Nat), go a = some q → ∀ k n, Bd k n kt nt q → inR a.1 → (∀ e, q.1 = .inr e → GX sc (MJ (d + 1)) mc ms 97 [] [] (wz e) kt nt K) → (∀ r, q.1 = .inl r → K (some (V (bi r.1))) (wz r.2)) → GX sc (MJ (d + 1)) mc ms 3 [(0, .ref c0), (1, V a1), (2, .ref c2), (3, .ref c3), (4, V a.1)] [] (wz a.2) k n K) {a4 : Int} (ha4 : inR a4) {S : St} {L : List PC} {q : ((Bool × LZ) ⊕ (LZ)) × Nat × Nat} (h : jf2_LP_joins_56_3 rc c0 a1 c2 c3 go a4 S L = some q) {k n : Nat} (hb : Bd k n kt nt q) (hx : (∀ e, q.1 = .inr e → GX sc (MJ (d + 1)) mc ms 97 [] [] (wz e) kt nt K)) (hr : (∀ r, q.1 = .inl r → K (some (V (bi r.1))) (wz r.2))) : GX sc (MJ (d + 1)) mc ms 56 [(0, .ref c0), (1, V a1), (2, .ref c2), (3, .ref c3), (4, V a4)] [] (wz (S, L)) k n K := by
  unfold jf2_LP_joins_56_3 at h
  refine x_aloadn (pc := 56) (i0 := 3) (j := 3) (dK D_LP_joins_0 26 rfl) rfl rfl ?_
  refine x_iload (pc := 57) (j := 4) (dK D_LP_joins_0 27 rfl) rfl ?_
  refine wx_iconst (pc := 59) (dK D_LP_joins_0 28 rfl) ?_
  refine bnE h ?_
  clear h
  intro L12 e_L12 h
  refine wx_zast (Z := (S, L)) (pc := 60) (z := 1) e_L12 ha4 (dK D_LP_joins_0 29 rfl) ?_
  refine x_aloadn (pc := 61) (i0 := 2) (j := 2) (dK D_LP_joins_0 30 rfl) rfl rfl ?_
  refine x_iload (pc := 62) (j := 4) (dK D_LP_joins_0 31 rfl) rfl ?_
  refine bnE h ?_
  clear h
  intro v13 e_v13 h
  refine wx_iald (pc := 64) e_v13 ha4 (dK D_LP_joins_0 32 rfl) ?_
  refine wx_if_lt (pc := 65) (t := 84) (dK D_LP_joins_0 33 rfl) rfl (vI_at e_v13).2 (fun hc21 => ?_) (fun hc21 => ?_)
  · replace h := ifP h hc21
    refine x_aloadn (pc := 84) (i0 := 2) (j := 2) (dK D_LP_joins_0 43 rfl) rfl rfl ?_
    refine x_iload (pc := 85) (j := 4) (dK D_LP_joins_0 44 rfl) rfl ?_
    refine x_iloadn (pc := 87) (i0 := 1) (j := 1) (dK D_LP_joins_0 45 rfl) rfl rfl ?_
    refine bnE h ?_
    clear h
    intro L14 e_L14 h
    refine wx_iast (Z := (S, L12)) (pc := 88) (z := a1) e_L14 ha4 (dK D_LP_joins_0 46 rfl) ?_
    refine wx_iconst (pc := 89) (dK D_LP_joins_0 47 rfl) ?_
    obtain rfl := Option.some.inj h
    exact wk_iretB (pc := 90) (b := true) (dK D_LP_joins_0 48 rfl) rfl (Nat.le_trans (bdk hb) hkt) (Nat.le_trans (bdn hb) hnt) (hr (true, (S, L14)) rfl)
  · replace h := ifN h hc21
    refine x_aloadn (pc := 68) (i0 := 0) (j := 0) (dK D_LP_joins_0 34 rfl) rfl rfl ?_
    refine x_aloadn (pc := 69) (i0 := 2) (j := 2) (dK D_LP_joins_0 35 rfl) rfl rfl ?_
    refine x_iload (pc := 70) (j := 4) (dK D_LP_joins_0 36 rfl) rfl ?_
    refine bnE h ?_
    clear h
    intro v15 e_v15 h
    refine wx_iald (pc := 72) e_v15 ha4 (dK D_LP_joins_0 37 rfl) ?_
    refine x_aloadn (pc := 73) (i0 := 2) (j := 2) (dK D_LP_joins_0 38 rfl) rfl rfl ?_
    refine x_aloadn (pc := 74) (i0 := 3) (j := 3) (dK D_LP_joins_0 39 rfl) rfl rfl ?_
    refine gdE h ?_
    clear h
    intro hk17 h
    refine bnE h ?_
    clear h
    intro p16 e_p16 h
    obtain ⟨yp16, h9, e9⟩ := adE2 h
    clear h
    subst e9
    have h := h9
    clear h9
    have hk1 := Nat.le_trans (bd1 hb) hkt
    have hn1 := Nat.le_trans (bd2 hb) hnt
    replace hb := bdA hb
    refine x_callX (pc := 75) (Y' := MJ d) (As := [V v15, .ref c2, .ref c3]) (rest := []) (mc' := p16.2.1) (ms' := p16.2.2) (dK D_LP_joins_0 40 rfl) Q_LP_168 sx_LP_joins fitJ (isK_at (Z := (S, L12)) (ci := 12) hk17) rfl (leK rfl) hk1 hn1 (ihd _ _ _ _ _ _ (vI_at e_v15).2 e_p16) (kxB' ?_)
    refine wx_ifB_ne (pc := 78) (b := p16.1.1) (t := 84) (dK D_LP_joins_0 41 rfl) rfl (fun hc18 => ?_) (fun hc18 => ?_)
    · replace h := ifP h hc18
      refine x_aloadn (pc := 84) (i0 := 2) (j := 2) (dK D_LP_joins_0 43 rfl) rfl rfl ?_
      refine x_iload (pc := 85) (j := 4) (dK D_LP_joins_0 44 rfl) rfl ?_
      refine x_iloadn (pc := 87) (i0 := 1) (j := 1) (dK D_LP_joins_0 45 rfl) rfl rfl ?_
      refine bnE h ?_
      clear h
      intro L19 e_L19 h
      refine wx_iast (Z := (p16.1.2.1, p16.1.2.2)) (pc := 88) (z := a1) e_L19 ha4 (dK D_LP_joins_0 46 rfl) ?_
      refine wx_iconst (pc := 89) (dK D_LP_joins_0 47 rfl) ?_
      obtain rfl := Option.some.inj h
      exact wk_iretB (pc := 90) (b := true) (dK D_LP_joins_0 48 rfl) rfl (Nat.le_trans (bdk hb) hkt) (Nat.le_trans (bdn hb) hnt) (hr (true, (p16.1.2.1, L19)) rfl)
    · replace h := ifN h hc18
      refine x_goto (pc := 81) (tgt := 91) (dK D_LP_joins_0 42 rfl) rfl ?_
      refine nmE h ?_
      clear h
      intro v20 e_v20 h
      refine wx_iinc (pc := 91) (j := 4) (a := a4) (z := 1) (ls2 := [(4, V v20), (0, .ref c0), (1, V a1), (2, .ref c2), (3, .ref c3)]) (dK D_LP_joins_0 49 rfl) rfl e_v20 (ltK rfl) rfl ?_
      refine x_goto (pc := 94) (tgt := 3) (dK D_LP_joins_1 0 rfl) rfl ?_
      refine x_weak (ls' := [(0, .ref c0), (1, V a1), (2, .ref c2), (3, .ref c3), (4, V v20)]) (sbc 1 rfl (sbc 2 rfl (sbc 3 rfl (sbc 4 rfl (sbc 0 rfl sbn))))) ?_
      replace h := ih _ _ h
      exact h _ _ hb (Vn_in e_v20) hx hr
def lb2_LP_joins_3 (rc : Nat → Int → Nat → Nat → St → List PC → Option ((Bool × LZ) × Nat × Nat)) (c0 : Nat) (a1 : Int) (c2 : Nat) (c3 : Nat) (go : Int × LZ → Option (((Bool × LZ) ⊕ (LZ)) × Nat × Nat)) (a4 : Int) (S : St) (L : List PC) : Option (((Bool × LZ) ⊕ (LZ)) × Nat × Nat) := if isK L c0 12 = true then (bnO (gn_LP_pages c0 S L) fun p1 => if p1 < a4 then (some (.inr (S, L), 0, 0)) else (bnO (ald L 2 c3 a4) fun v3 => if v3 = 0 then (bnO (gfV L c0 12 4) fun v4 => rfB v4 fun r5 => if isK L r5 13 = true then (bnO (gn_AL_get r5 a1 S L) fun p6 => rfB p6 fun r8 => if isK L r8 11 = true then (if isK L c0 12 = true then (bnO (gn_LP_reason c0 r8 a4 S L) fun p10 => adC p10.2.1 p10.2.2 (if p10.1.1 = 0 then (jf2_LP_joins_56_3 rc c0 a1 c2 c3 go a4 p10.1.2.1 p10.1.2.2) else (if p10.1.1 = 6 then (jf2_LP_joins_56_3 rc c0 a1 c2 c3 go a4 p10.1.2.1 p10.1.2.2) else (nm (wr (a4 + 1)) fun v22 => go (v22, (p10.1.2.1, p10.1.2.2)))))) else none) else none) else none) else (nm (wr (a4 + 1)) fun v25 => go (v25, (S, L))))) else none
def lo2_LP_joins_3 (rc : Nat → Int → Nat → Nat → St → List PC → Option ((Bool × LZ) × Nat × Nat)) (c0 : Nat) (a1 : Int) (c2 : Nat) (c3 : Nat) : Nat → Int × LZ → Option (((Bool × LZ) ⊕ (LZ)) × Nat × Nat) := lp fun go p => lb2_LP_joins_3 rc c0 a1 c2 c3 go p.1 p.2.1 p.2.2
theorem tl2_LP_joins_3 {sc : SC} {d : Nat} {rc : Nat → Int → Nat → Nat → St → List PC → Option ((Bool × LZ) × Nat × Nat)} (ihd : ∀ c0 a1 c2 c3 S L, inR a1 → ∀ {q}, rc c0 a1 c2 c3 S L = some q → EvX sc (MJ d) [.ref c0, V a1, .ref c2, .ref c3] (wz (S, L)) q.2.1 q.2.2 (KXB q.1.1 q.1.2)) {c0 : Nat} {a1 : Int} (ha1 : inR a1) {c2 : Nat} {c3 : Nat} {K : Option Value → List PC → Prop} {mc ms kt nt : Nat} (hkt : kt ≤ mc) (hnt : nt ≤ ms) : ∀ (N : Nat) (a : Int × LZ) (q : ((Bool × LZ) ⊕ (LZ)) × Nat × Nat), lo2_LP_joins_3 rc c0 a1 c2 c3 N a = some q → ∀ k n, Bd k n kt nt q → inR a.1 → (∀ e, q.1 = .inr e → GX sc (MJ (d + 1)) mc ms 97 [] [] (wz e) kt nt K) → (∀ r, q.1 = .inl r → K (some (V (bi r.1))) (wz r.2)) → GX sc (MJ (d + 1)) mc ms 3 [(0, .ref c0), (1, V a1), (2, .ref c2), (3, .ref c3), (4, V a.1)] [] (wz a.2) k n K := by
  refine lp_ind2 (P := fun (a : Int × LZ) (q : ((Bool × LZ) ⊕ (LZ)) × Nat × Nat) => ∀ k n, Bd k n kt nt q → inR a.1 → (∀ e, q.1 = .inr e → GX sc (MJ (d + 1)) mc ms 97 [] [] (wz e) kt nt K) → (∀ r, q.1 = .inl r → K (some (V (bi r.1))) (wz r.2)) → GX sc (MJ (d + 1)) mc ms 3 [(0, .ref c0), (1, V a1), (2, .ref c2), (3, .ref c3), (4, V a.1)] [] (wz a.2) k n K) (fun go ih a q h => ?_)
  obtain ⟨a4, ⟨S, L⟩⟩ := a
  intro k n hb ha4 hx hr
  show GX sc (MJ (d + 1)) mc ms 3 [(0, .ref c0), (1, V a1), (2, .ref c2), (3, .ref c3), (4, V a4)] [] (wz (S, L)) k n K
  replace h : lb2_LP_joins_3 rc c0 a1 c2 c3 go a4 S L = some q := h
  unfold lb2_LP_joins_3 at h
  refine x_iload (pc := 3) (j := 4) (dK D_LP_joins_0 2 rfl) rfl ?_
  refine x_aloadn (pc := 5) (i0 := 0) (j := 0) (dK D_LP_joins_0 3 rfl) rfl rfl ?_
  refine gdE h ?_
  clear h
  intro hk2 h
  refine bnE h ?_
  clear h
  intro p1 e_p1 h
  refine x_callX (pc := 6) (As := []) (rest := [V a4]) (mc' := 0) (ms' := 0) (dK D_LP_joins_0 4 rfl) Q_LP_111 sx_LP_pages (fitJ0 rfl) (isK_at (Z := (S, L)) (ci := 12) hk2) rfl (leK rfl) (Nat.le_trans (bdk hb) hkt) (Nat.le_trans (bdn hb) hnt) (tg_LP_pages  e_p1) (kxI' (fun h_p1 => ?_))
  refine wx_icmp_gt (pc := 9) (t := 97) (dK D_LP_joins_0 5 rfl) rfl ha4 h_p1 (fun hc27 => ?_) (fun hc27 => ?_)
  · replace h := ifP h hc27
    obtain rfl := Option.some.inj h
    refine x_weak (ls' := []) sbn ?_
    refine x_room (bdk hb) (bdn hb) ?_
    exact hx (S, L) rfl
  · replace h := ifN h hc27
    refine x_aloadn (pc := 12) (i0 := 3) (j := 3) (dK D_LP_joins_0 6 rfl) rfl rfl ?_
    refine x_iload (pc := 13) (j := 4) (dK D_LP_joins_0 7 rfl) rfl ?_
    refine bnE h ?_
    clear h
    intro v3 e_v3 h
    refine wx_zald (pc := 15) e_v3 ha4 (dK D_LP_joins_0 8 rfl) ?_
    refine wx_if_eq (pc := 16) (t := 22) (dK D_LP_joins_0 9 rfl) rfl (vI_at e_v3).2 (fun hc26 => ?_) (fun hc26 => ?_)
    · replace h := ifP h hc26
      refine x_aloadn (pc := 22) (i0 := 0) (j := 0) (dK D_LP_joins_0 11 rfl) rfl rfl ?_
      refine x_aloadn (pc := 23) (i0 := 0) (j := 0) (dK D_LP_joins_0 12 rfl) rfl rfl ?_
      refine bnE h ?_
      clear h
      intro v4 e_v4 h
      refine wx_getV (pc := 24) (ci := 12) (f := 4) e_v4 (dK D_LP_joins_0 13 rfl) q_775 (ltK rfl) (ltK rfl) (fun hv4 => ?_)
      refine x_iloadn (pc := 27) (i0 := 1) (j := 1) (dK D_LP_joins_0 14 rfl) rfl rfl ?_
      refine rfE h ?_
      clear h
      intro r5 e_r5 h
      rw [e_r5]
      refine gdE h ?_
      clear h
      intro hk7 h
      refine bnE h ?_
      clear h
      intro p6 e_p6 h
      refine x_callX (pc := 28) (As := [V a1]) (rest := [.ref c0]) (mc' := 0) (ms' := 0) (dK D_LP_joins_0 15 rfl) Q_LP_87 sx_AL_get (fitJ0 rfl) (isK_at (Z := (S, L)) (ci := 13) hk7) rfl (leK rfl) (Nat.le_trans (bdk hb) hkt) (Nat.le_trans (bdn hb) hnt) (tg_AL_get ha1 e_p6) (kxR (fun h_p6 => ?_))
      refine rfE h ?_
      clear h
      intro r8 e_r8 h
      rw [e_r8]
      refine gdE h ?_
      clear h
      intro hk9 h
      refine x_cast (pc := 31) (dK D_LP_joins_0 16 rfl) q_861 (isK_at (Z := (S, L)) (ci := 11) hk9) ?_
      refine x_iload (pc := 34) (j := 4) (dK D_LP_joins_0 17 rfl) rfl ?_
      refine gdE h ?_
      clear h
      intro hk11 h
      refine bnE h ?_
      clear h
      intro p10 e_p10 h
      obtain ⟨yp10, h9, e9⟩ := adE2 h
      clear h
      subst e9
      have h := h9
      clear h9
      have hk1 := Nat.le_trans (bd1 hb) hkt
      have hn1 := Nat.le_trans (bd2 hb) hnt
      replace hb := bdA hb
      refine x_callX (pc := 36) (As := [.ref r8, V a4]) (rest := []) (mc' := p10.2.1) (ms' := p10.2.2) (dK D_LP_joins_0 18 rfl) Q_LP_164 sx_LP_reason (fitJ0 rfl) (isK_at (Z := (S, L)) (ci := 12) hk11) rfl (leK rfl) hk1 hn1 (tg_LP_reason ha4 e_p10) (kxI' (fun h_p10 => ?_))
      refine x_istore (pc := 39) (ls2 := [(5, V p10.1.1), (0, .ref c0), (1, V a1), (2, .ref c2), (3, .ref c3), (4, V a4)]) (dK D_LP_joins_0 19 rfl) (ltK rfl) rfl ?_
      refine x_iload (pc := 41) (j := 0) (dK D_LP_joins_0 20 rfl) rfl ?_
      refine wx_if_eq (pc := 43) (t := 56) (dK D_LP_joins_0 21 rfl) rfl h_p10 (fun hc24 => ?_) (fun hc24 => ?_)
      · replace h := ifP h hc24
        refine x_weak (ls' := [(0, .ref c0), (1, V a1), (2, .ref c2), (3, .ref c3), (4, V a4)]) (sbc 1 rfl (sbc 2 rfl (sbc 3 rfl (sbc 4 rfl (sbc 5 rfl sbn))))) ?_
        exact tj2_LP_joins_56_3 ihd ha1 hkt hnt ih ha4 h hb hx hr
      · replace h := ifN h hc24
        refine x_iload (pc := 46) (j := 0) (dK D_LP_joins_0 22 rfl) rfl ?_
        refine wx_bipush (pc := 48) (dK D_LP_joins_0 23 rfl) rfl ?_
        refine wx_icmp_eq (pc := 50) (t := 56) (dK D_LP_joins_0 24 rfl) rfl h_p10 (inRk rfl) (fun hc23 => ?_) (fun hc23 => ?_)
        · replace h := ifP h hc23
          refine x_weak (ls' := [(0, .ref c0), (1, V a1), (2, .ref c2), (3, .ref c3), (4, V a4)]) (sbc 1 rfl (sbc 2 rfl (sbc 3 rfl (sbc 4 rfl (sbc 5 rfl sbn))))) ?_
          exact tj2_LP_joins_56_3 ihd ha1 hkt hnt ih ha4 h hb hx hr
        · replace h := ifN h hc23
          refine x_goto (pc := 53) (tgt := 91) (dK D_LP_joins_0 25 rfl) rfl ?_
          refine nmE h ?_
          clear h
          intro v22 e_v22 h
          refine wx_iinc (pc := 91) (j := 5) (a := a4) (z := 1) (ls2 := [(4, V v22), (5, V p10.1.1), (0, .ref c0), (1, V a1), (2, .ref c2), (3, .ref c3)]) (dK D_LP_joins_0 49 rfl) rfl e_v22 (ltK rfl) rfl ?_
          refine x_goto (pc := 94) (tgt := 3) (dK D_LP_joins_1 0 rfl) rfl ?_
          refine x_weak (ls' := [(0, .ref c0), (1, V a1), (2, .ref c2), (3, .ref c3), (4, V v22)]) (sbc 2 rfl (sbc 3 rfl (sbc 4 rfl (sbc 5 rfl (sbc 0 rfl sbn))))) ?_
          replace h := ih _ _ h
          exact h _ _ hb (Vn_in e_v22) hx hr
    · replace h := ifN h hc26
      refine x_goto (pc := 19) (tgt := 91) (dK D_LP_joins_0 10 rfl) rfl ?_
      refine nmE h ?_
      clear h
      intro v25 e_v25 h
      refine wx_iinc (pc := 91) (j := 4) (a := a4) (z := 1) (ls2 := [(4, V v25), (0, .ref c0), (1, V a1), (2, .ref c2), (3, .ref c3)]) (dK D_LP_joins_0 49 rfl) rfl e_v25 (ltK rfl) rfl ?_
      refine x_goto (pc := 94) (tgt := 3) (dK D_LP_joins_1 0 rfl) rfl ?_
      refine x_weak (ls' := [(0, .ref c0), (1, V a1), (2, .ref c2), (3, .ref c3), (4, V v25)]) (sbc 1 rfl (sbc 2 rfl (sbc 3 rfl (sbc 4 rfl (sbc 0 rfl sbn))))) ?_
      replace h := ih _ _ h
      exact h _ _ hb (Vn_in e_v25) hx hr
def gb_LP_joins (rc : Nat → Int → Nat → Nat → St → List PC → Option ((Bool × LZ) × Nat × Nat)) (c0 : Nat) (a1 : Int) (c2 : Nat) (c3 : Nat) (S : St) (L : List PC) : Option ((Bool × LZ) × Nat × Nat) := bnT (lo2_LP_joins_3 rc c0 a1 c2 c3 FU (1, (S, L))) (fun r29 => some ((r29.1, (r29.2.1, r29.2.2)), 0, 0)) fun e30 => some ((false, (e30.1, e30.2)), 0, 0)
def gr_LP_joins : Nat → Nat → Int → Nat → Nat → St → List PC → Option ((Bool × LZ) × Nat × Nat)
  | 0 => fun _ _ _ _ _ _ => none
  | d + 1 => gb_LP_joins (gr_LP_joins d)
theorem te_LP_joins {sc : SC} {d : Nat} {rc : Nat → Int → Nat → Nat → St → List PC → Option ((Bool × LZ) × Nat × Nat)} (ihd : ∀ c0 a1 c2 c3 S L, inR a1 → ∀ {q}, rc c0 a1 c2 c3 S L = some q → EvX sc (MJ d) [.ref c0, V a1, .ref c2, .ref c3] (wz (S, L)) q.2.1 q.2.2 (KXB q.1.1 q.1.2)) {c0 : Nat} {a1 : Int} (ha1 : inR a1) {c2 : Nat} {c3 : Nat} {S : St} {L : List PC} {q : (Bool × LZ) × Nat × Nat} (h : gb_LP_joins rc c0 a1 c2 c3 S L = some q) {mc ms k n : Nat} (hb : Bd k n mc ms q) : GX sc (MJ (d + 1)) mc ms 0 [(0, .ref c0), (1, V a1), (2, .ref c2), (3, .ref c3)] [] (wz (S, L)) k n (KXB q.1.1 q.1.2) := by
  unfold gb_LP_joins at h
  refine wx_iconst (pc := 0) (dK D_LP_joins_0 0 rfl) ?_
  refine x_istore (pc := 1) (ls2 := [(4, V 1), (0, .ref c0), (1, V a1), (2, .ref c2), (3, .ref c3)]) (dK D_LP_joins_0 1 rfl) (ltK rfl) rfl ?_
  refine bnTE h ?_ ?_
  · clear h
    intro p28 r29 yp28 e_p28 f_p28 h e9
    subst e9
    have hk1 := bd1 hb
    have hn1 := bd2 hb
    replace hb := bdA hb
    refine x_weak (ls' := [(0, .ref c0), (1, V a1), (2, .ref c2), (3, .ref c3), (4, V 1)]) (sbc 1 rfl (sbc 2 rfl (sbc 3 rfl (sbc 4 rfl (sbc 0 rfl sbn))))) ?_
    refine tl2_LP_joins_3 ihd ha1 hk1 hn1 FU _ _ e_p28 _ _ ⟨Nat.le_refl _, Nat.le_refl _⟩ (inRk rfl) (fun _ g_ => by rw [f_p28] at g_; exact nomatch g_) (fun r_ g_  => ?_)
    obtain rfl := Sum.inl.inj (f_p28.symm.trans g_)
    obtain rfl := Option.some.inj h
    exact ⟨rfl, rfl⟩
  · clear h
    intro p28 e30 yp28 e_p28 f_p28 h e9
    subst e9
    have hk1 := bd1 hb
    have hn1 := bd2 hb
    replace hb := bdA hb
    refine x_weak (ls' := [(0, .ref c0), (1, V a1), (2, .ref c2), (3, .ref c3), (4, V 1)]) (sbc 1 rfl (sbc 2 rfl (sbc 3 rfl (sbc 4 rfl (sbc 0 rfl sbn))))) ?_
    refine tl2_LP_joins_3 ihd ha1 hk1 hn1 FU _ _ e_p28 _ _ ⟨Nat.le_refl _, Nat.le_refl _⟩ (inRk rfl) (fun e_ g_  => ?_) (fun _ g_ => by rw [f_p28] at g_; exact nomatch g_)
    obtain rfl := Sum.inr.inj (f_p28.symm.trans g_)
    refine wx_iconst (pc := 97) (dK D_LP_joins_1 1 rfl) ?_
    obtain rfl := Option.some.inj h
    exact wk_iretB (pc := 98) (b := false) (dK D_LP_joins_1 2 rfl) rfl (bdk hb) (bdn hb) ⟨rfl, rfl⟩
theorem tr_LP_joins {sc : SC} : ∀ (d c0 : Nat) (a1 : Int) (c2 c3 : Nat) (S : St) (L : List PC), inR a1 → ∀ {q}, gr_LP_joins d c0 a1 c2 c3 S L = some q → EvX sc (MJ d) [.ref c0, V a1, .ref c2, .ref c3] (wz (S, L)) q.2.1 q.2.2 (KXB q.1.1 q.1.2)
  | 0 => fun _ _ _ _ _ _ _ _ h => nomatch h
  | d + 1 => fun c0 a1 c2 c3 S L ha1 q h => EvX.of pn2_LP rfl (leK rfl) (te_LP_joins (tr_LP_joins d) ha1 h ⟨Nat.le_of_eq (Nat.zero_add _), Nat.le_of_eq (Nat.zero_add _)⟩)
def gn_AL_isEmpty (c0 : Nat) (S : St) (L : List PC) : Option (Bool) := bnO (gfI L c0 13 1) fun v1 => if v1 = 0 then (some true) else (some false)
theorem te_AL_isEmpty {sc : SC} {c0 : Nat} {S : St} {L : List PC} {q : Bool} (h : gn_AL_isEmpty c0 S L = some q) {mc ms k n : Nat} (hk0 : k ≤ mc) (hn0 : n ≤ ms) : GX sc M_AL_isEmpty mc ms 0 [(0, .ref c0)] [] (wz (S, L)) k n (KXB q (S, L)) := by
  unfold gn_AL_isEmpty at h
  refine x_aloadn (pc := 0) (i0 := 0) (j := 0) (dK D_AL_isEmpty 0 rfl) rfl rfl ?_
  refine bnE h ?_
  clear h
  intro v1 e_v1 h
  refine wx_getI (pc := 1) (ci := 13) (f := 1) e_v1 (dK D_AL_isEmpty 1 rfl) q_755 (ltK rfl) (ltK rfl) ?_
  refine wx_if_ne (pc := 4) (t := 11) (dK D_AL_isEmpty 2 rfl) rfl (vI_at e_v1).2 (fun hc2 => ?_) (fun hc2 => ?_)
  · replace h := ifN h hc2
    refine wx_iconst (pc := 11) (dK D_AL_isEmpty 5 rfl) ?_
    obtain rfl := Option.some.inj h
    exact wk_iretB (pc := 12) (b := false) (dK D_AL_isEmpty 6 rfl) rfl hk0 hn0 ⟨rfl, rfl⟩
  · replace h := ifP h hc2
    refine wx_iconst (pc := 7) (dK D_AL_isEmpty 3 rfl) ?_
    refine x_goto (pc := 8) (tgt := 12) (dK D_AL_isEmpty 4 rfl) rfl ?_
    obtain rfl := Option.some.inj h
    exact wk_iretB (pc := 12) (b := true) (dK D_AL_isEmpty 6 rfl) rfl hk0 hn0 ⟨rfl, rfl⟩
theorem tg_AL_isEmpty {sc : SC} {c0 : Nat} {S : St} {L : List PC} {q : Bool} (h : gn_AL_isEmpty c0 S L = some q) : EvX sc M_AL_isEmpty [.ref c0] (wz (S, L)) 0 0 (KXB q (S, L)) := EvX.of pn2_AL rfl (leK rfl) (te_AL_isEmpty  h (Nat.le_refl _) (Nat.le_refl _))
def lb2_LP_eviction_17 (c0 : Nat) (c1 : Nat) (a2 : Int) (c3 : Nat) (c4 : Nat) (go : LZ → Option ((LZ) × Nat × Nat))  (S : St) (L : List PC) : Option ((LZ) × Nat × Nat) := if isK L c4 14 = true then (bnO (gn_Itr_hasNext c4 S L) fun p11 => if p11 = true then (if isK L c4 14 = true then (bnO (gn_Itr_next c4 S L) fun p14 => adC p14.2.1 p14.2.2 (rfB p14.1.1 fun r16 => if isK p14.1.2.2 r16 11 = true then (if apq p14.1.2.2 r16 c1 = true then (if r16 = c1 then (go (p14.1.2.1, p14.1.2.2)) else (bnO (gfI p14.1.2.2 r16 11 5) fun v20 => if v20 ≤ 0 then (go (p14.1.2.1, p14.1.2.2)) else (bnO (gfI p14.1.2.2 r16 11 5) fun v21 => nm (wr (a2.tdiv 2)) fun v22 => nm (wr (v21.tdiv 2)) fun v23 => if v23 = v22 then (bnO (gfI p14.1.2.2 r16 11 5) fun v24 => if isK p14.1.2.2 c0 12 = true then (bnO (gn_LP_isShut c0 v24 p14.1.2.1 p14.1.2.2) fun p25 => if p25 = true then (go (p14.1.2.1, p14.1.2.2)) else (if isK p14.1.2.2 c3 13 = true then (bnO (gn_AL_add c3 (.ref r16) p14.1.2.1 p14.1.2.2) fun p28 => adC p28.2.1 p28.2.2 (go (p28.1.2.1, p28.1.2.2))) else none)) else none) else (go (p14.1.2.1, p14.1.2.2))))) else none) else none)) else none) else (some ((S, L), 0, 0))) else none
def lo2_LP_eviction_17 (c0 : Nat) (c1 : Nat) (a2 : Int) (c3 : Nat) (c4 : Nat) : Nat → LZ → Option ((LZ) × Nat × Nat) := lp fun go p => lb2_LP_eviction_17 c0 c1 a2 c3 c4 go p.1 p.2
theorem tl2_LP_eviction_17 {sc : SC} {c0 : Nat} {c1 : Nat} {a2 : Int} (ha2 : inR a2) {c3 : Nat} {c4 : Nat} {K : Option Value → List PC → Prop} {mc ms kt nt : Nat} (hkt : kt ≤ mc) (hnt : nt ≤ ms) : ∀ (N : Nat) (a : LZ) (q : (LZ) × Nat × Nat), lo2_LP_eviction_17 c0 c1 a2 c3 c4 N a = some q → ∀ k n, Bd k n kt nt q → (GX sc M_LP_eviction mc ms 88 [(0, .ref c0), (1, .ref c1), (2, V a2), (3, .ref c3)] [] (wz q.1) kt nt K) → GX sc M_LP_eviction mc ms 17 [(0, .ref c0), (1, .ref c1), (2, V a2), (3, .ref c3), (4, .ref c4)] [] (wz a) k n K := by
  refine lp_ind2 (P := fun (a : LZ) (q : (LZ) × Nat × Nat) => ∀ k n, Bd k n kt nt q → (GX sc M_LP_eviction mc ms 88 [(0, .ref c0), (1, .ref c1), (2, V a2), (3, .ref c3)] [] (wz q.1) kt nt K) → GX sc M_LP_eviction mc ms 17 [(0, .ref c0), (1, .ref c1), (2, V a2), (3, .ref c3), (4, .ref c4)] [] (wz a) k n K) (fun go ih a q h => ?_)
  obtain ⟨S, L⟩ := a
  intro k n hb hx
  show GX sc M_LP_eviction mc ms 17 [(0, .ref c0), (1, .ref c1), (2, V a2), (3, .ref c3), (4, .ref c4)] [] (wz (S, L)) k n K
  replace h : lb2_LP_eviction_17 c0 c1 a2 c3 c4 go S L = some q := h
  unfold lb2_LP_eviction_17 at h
  refine x_aload (pc := 17) (j := 4) (dK D_LP_eviction_0 8 rfl) rfl ?_
  refine gdE h ?_
  clear h
  intro hk12 h
  refine bnE h ?_
  clear h
  intro p11 e_p11 h
  refine x_callF (pc := 19) (As := []) (rest := []) (mc' := 0) (ms' := 0) (dK D_LP_eviction_0 9 rfl) LE_Itr_hasNext (List.mem_of_getElem? (i := 0) rfl) q_839 q_843 q_845 rfl q_820 (fitK rfl) (isK_at (Z := (S, L)) (ci := 14) hk12) rfl (leK rfl) (Nat.le_trans (bdk hb) hkt) (Nat.le_trans (bdn hb) hnt) (tg_Itr_hasNext  e_p11) (kxB' ?_)
  refine wx_ifB_eq (pc := 24) (b := p11) (t := 88) (dK D_LP_eviction_0 10 rfl) rfl (fun hc13 => ?_) (fun hc13 => ?_)
  · replace h := ifP h hc13
    refine x_aload (pc := 27) (j := 4) (dK D_LP_eviction_0 11 rfl) rfl ?_
    refine gdE h ?_
    clear h
    intro hk15 h
    refine bnE h ?_
    clear h
    intro p14 e_p14 h
    obtain ⟨yp14, h9, e9⟩ := adE2 h
    clear h
    subst e9
    have h := h9
    clear h9
    have hk1 := Nat.le_trans (bd1 hb) hkt
    have hn1 := Nat.le_trans (bd2 hb) hnt
    replace hb := bdA hb
    refine x_callF (pc := 29) (As := []) (rest := []) (mc' := p14.2.1) (ms' := p14.2.2) (dK D_LP_eviction_0 12 rfl) LE_Itr_next (List.mem_of_getElem? (i := 1) rfl) q_849 q_852 q_854 rfl q_820 (fitK rfl) (isK_at (Z := (S, L)) (ci := 14) hk15) rfl (leK rfl) hk1 hn1 (tg_Itr_next  e_p14) (kxR (fun h_p14 => ?_))
    refine rfE h ?_
    clear h
    intro r16 e_r16 h
    rw [e_r16]
    refine gdE h ?_
    clear h
    intro hk17 h
    refine x_cast (pc := 34) (dK D_LP_eviction_0 13 rfl) q_861 (isK_at (Z := (p14.1.2.1, p14.1.2.2)) (ci := 11) hk17) ?_
    refine x_astore (pc := 37) (ls2 := [(5, .ref r16), (0, .ref c0), (1, .ref c1), (2, V a2), (3, .ref c3), (4, .ref c4)]) (dK D_LP_eviction_0 14 rfl) (ltK rfl) rfl ?_
    refine x_aload (pc := 39) (j := 0) (dK D_LP_eviction_0 15 rfl) rfl ?_
    refine x_aloadn (pc := 41) (i0 := 1) (j := 2) (dK D_LP_eviction_0 16 rfl) rfl rfl ?_
    refine gdE h ?_
    clear h
    intro hap18 h
    refine x_acmp_eq (pc := 42) (tgt := 85) (apq_at (Z := (p14.1.2.1, p14.1.2.2)) hap18) (dK D_LP_eviction_0 17 rfl) rfl (fun hc19 => ?_) (fun hc19 => ?_)
    · replace h := ifP h hc19
      refine x_goto (pc := 85) (tgt := 17) (dK D_LP_eviction_0 38 rfl) rfl ?_
      refine x_weak (ls' := [(0, .ref c0), (1, .ref c1), (2, V a2), (3, .ref c3), (4, .ref c4)]) (sbc 1 rfl (sbc 2 rfl (sbc 3 rfl (sbc 4 rfl (sbc 5 rfl sbn))))) ?_
      replace h := ih _ _ h
      exact h _ _ hb hx
    · replace h := ifN h hc19
      refine x_aload (pc := 45) (j := 0) (dK D_LP_eviction_0 18 rfl) rfl ?_
      refine bnE h ?_
      clear h
      intro v20 e_v20 h
      refine wx_getI (pc := 47) (ci := 11) (f := 5) e_v20 (dK D_LP_eviction_0 19 rfl) q_888 (ltK rfl) (ltK rfl) ?_
      refine wx_if_le (pc := 50) (t := 85) (dK D_LP_eviction_0 20 rfl) rfl (vI_at e_v20).2 (fun hc31 => ?_) (fun hc31 => ?_)
      · replace h := ifP h hc31
        refine x_goto (pc := 85) (tgt := 17) (dK D_LP_eviction_0 38 rfl) rfl ?_
        refine x_weak (ls' := [(0, .ref c0), (1, .ref c1), (2, V a2), (3, .ref c3), (4, .ref c4)]) (sbc 1 rfl (sbc 2 rfl (sbc 3 rfl (sbc 4 rfl (sbc 5 rfl sbn))))) ?_
        replace h := ih _ _ h
        exact h _ _ hb hx
      · replace h := ifN h hc31
        refine x_aload (pc := 53) (j := 0) (dK D_LP_eviction_0 21 rfl) rfl ?_
        refine bnE h ?_
        clear h
        intro v21 e_v21 h
        refine wx_getI (pc := 55) (ci := 11) (f := 5) e_v21 (dK D_LP_eviction_0 22 rfl) q_888 (ltK rfl) (ltK rfl) ?_
        refine wx_iconst (pc := 58) (dK D_LP_eviction_0 23 rfl) ?_
        refine wx_idiv (pc := 59) (dK D_LP_eviction_0 24 rfl) (vI_at e_v21).2 (inRk rfl) (by decide) ?_
        refine x_iloadn (pc := 60) (i0 := 2) (j := 3) (dK D_LP_eviction_0 25 rfl) rfl rfl ?_
        refine wx_iconst (pc := 61) (dK D_LP_eviction_0 26 rfl) ?_
        refine wx_idiv (pc := 62) (dK D_LP_eviction_0 27 rfl) ha2 (inRk rfl) (by decide) ?_
        refine nmE h ?_
        clear h
        intro v22 e_v22 h
        refine wtop e_v22 ?_
        refine nmE h ?_
        clear h
        intro v23 e_v23 h
        refine wsk (st' := [V v22, V v23]) (congrArg (fun z9 => [V v22, z9]) (Vn e_v23)) ?_
        refine wx_icmp_ne (pc := 63) (t := 85) (dK D_LP_eviction_0 28 rfl) rfl (Vn_in e_v23) (Vn_in e_v22) (fun hc30 => ?_) (fun hc30 => ?_)
        · replace h := ifN h hc30
          refine x_goto (pc := 85) (tgt := 17) (dK D_LP_eviction_0 38 rfl) rfl ?_
          refine x_weak (ls' := [(0, .ref c0), (1, .ref c1), (2, V a2), (3, .ref c3), (4, .ref c4)]) (sbc 1 rfl (sbc 2 rfl (sbc 3 rfl (sbc 4 rfl (sbc 5 rfl sbn))))) ?_
          replace h := ih _ _ h
          exact h _ _ hb hx
        · replace h := ifP h hc30
          refine x_aloadn (pc := 66) (i0 := 0) (j := 1) (dK D_LP_eviction_0 29 rfl) rfl rfl ?_
          refine x_aload (pc := 67) (j := 0) (dK D_LP_eviction_0 30 rfl) rfl ?_
          refine bnE h ?_
          clear h
          intro v24 e_v24 h
          refine wx_getI (pc := 69) (ci := 11) (f := 5) e_v24 (dK D_LP_eviction_0 31 rfl) q_888 (ltK rfl) (ltK rfl) ?_
          refine gdE h ?_
          clear h
          intro hk26 h
          refine bnE h ?_
          clear h
          intro p25 e_p25 h
          refine x_callX (pc := 72) (As := [V v24]) (rest := []) (mc' := 0) (ms' := 0) (dK D_LP_eviction_0 32 rfl) Q_LP_117 sx_LP_isShut (fitK rfl) (isK_at (Z := (p14.1.2.1, p14.1.2.2)) (ci := 12) hk26) rfl (leK rfl) (Nat.le_trans (bdk hb) hkt) (Nat.le_trans (bdn hb) hnt) (tg_LP_isShut (vI_at e_v24).2 e_p25) (kxB' ?_)
          refine wx_ifB_ne (pc := 75) (b := p25) (t := 85) (dK D_LP_eviction_0 33 rfl) rfl (fun hc27 => ?_) (fun hc27 => ?_)
          · replace h := ifP h hc27
            refine x_goto (pc := 85) (tgt := 17) (dK D_LP_eviction_0 38 rfl) rfl ?_
            refine x_weak (ls' := [(0, .ref c0), (1, .ref c1), (2, V a2), (3, .ref c3), (4, .ref c4)]) (sbc 1 rfl (sbc 2 rfl (sbc 3 rfl (sbc 4 rfl (sbc 5 rfl sbn))))) ?_
            replace h := ih _ _ h
            exact h _ _ hb hx
          · replace h := ifN h hc27
            refine x_aloadn (pc := 78) (i0 := 3) (j := 4) (dK D_LP_eviction_0 34 rfl) rfl rfl ?_
            refine x_aload (pc := 79) (j := 0) (dK D_LP_eviction_0 35 rfl) rfl ?_
            refine gdE h ?_
            clear h
            intro hk29 h
            refine bnE h ?_
            clear h
            intro p28 e_p28 h
            obtain ⟨yp28, h9, e9⟩ := adE2 h
            clear h
            subst e9
            have h := h9
            clear h9
            have hk1 := Nat.le_trans (bd1 hb) hkt
            have hn1 := Nat.le_trans (bd2 hb) hnt
            replace hb := bdA hb
            refine x_callX (pc := 81) (As := [.ref r16]) (rest := []) (mc' := p28.2.1) (ms' := p28.2.2) (dK D_LP_eviction_0 36 rfl) Q_LP_69 sx_AL_add (fitK rfl) (isK_at (Z := (p14.1.2.1, p14.1.2.2)) (ci := 13) hk29) rfl (leK rfl) hk1 hn1 (tg_AL_add (.inr ⟨_, rfl⟩) e_p28) (kxB' ?_)
            refine x_pop (pc := 84) (dK D_LP_eviction_0 37 rfl) rfl ?_
            refine x_goto (pc := 85) (tgt := 17) (dK D_LP_eviction_0 38 rfl) rfl ?_
            refine x_weak (ls' := [(0, .ref c0), (1, .ref c1), (2, V a2), (3, .ref c3), (4, .ref c4)]) (sbc 1 rfl (sbc 2 rfl (sbc 3 rfl (sbc 4 rfl (sbc 5 rfl sbn))))) ?_
            replace h := ih _ _ h
            exact h _ _ hb hx
  · replace h := ifN h hc13
    obtain rfl := Option.some.inj h
    refine x_weak (ls' := [(0, .ref c0), (1, .ref c1), (2, V a2), (3, .ref c3)]) (sbc 0 rfl (sbc 1 rfl (sbc 2 rfl (sbc 3 rfl sbn)))) ?_
    refine x_room (bdk hb) (bdn hb) ?_
    exact hx 
def lb2_LP_eviction_119 (c0 : Nat) (c1 : Nat) (a2 : Int) (c3 : Nat) (a4 : Int) (a5 : Int) (c7 : Nat) (go : Int × Int × LZ → Option ((Int × LZ) × Nat × Nat)) (a6 : Int) (a8 : Int) (S : St) (L : List PC) : Option ((Int × LZ) × Nat × Nat) := bnO (alm L c7) fun v42 => if v42 ≤ a8 then (some ((a6, (S, L)), 0, 0)) else (if isK L c3 13 = true then (bnO (gn_AL_get c3 a8 S L) fun p43 => rfB p43 fun r45 => if isK L r45 11 = true then (bnO (gfI L r45 11 5) fun v47 => bnO (ast L 100 c7 a8 (V v47)) fun L48 => if (i_and (i_shr a5 a8) 1) = 0 then (nm (wr (a8 + 1)) fun v61 => go (a6, v61, (S, L48))) else (if isK L48 c3 13 = true then (bnO (gn_AL_get c3 a8 S L48) fun p49 => rfB p49 fun r51 => if isK L48 r51 11 = true then (bnO (gfI L48 r51 11 3) fun v53 => nm (wr (a6 + v53)) fun v54 => if isK L48 c3 13 = true then (bnO (gn_AL_get c3 a8 S L48) fun p55 => rfB p55 fun r57 => if isK L48 r57 11 = true then (bnO (pf L48 r57 11 5 (V 0)) fun L59 => nm (wr (a8 + 1)) fun v60 => go (v54, v60, (S, L59))) else none) else none) else none) else none)) else none) else none)
def lo2_LP_eviction_119 (c0 : Nat) (c1 : Nat) (a2 : Int) (c3 : Nat) (a4 : Int) (a5 : Int) (c7 : Nat) : Nat → Int × Int × LZ → Option ((Int × LZ) × Nat × Nat) := lp fun go p => lb2_LP_eviction_119 c0 c1 a2 c3 a4 a5 c7 go p.1 p.2.1 p.2.2.1 p.2.2.2
theorem tl2_LP_eviction_119 {sc : SC} {c0 : Nat} {c1 : Nat} {a2 : Int} (ha2 : inR a2) {c3 : Nat} {a4 : Int} (ha4 : inR a4) {a5 : Int} (ha5 : inR a5) {c7 : Nat} {K : Option Value → List PC → Prop} {mc ms kt nt : Nat} (hkt : kt ≤ mc) (hnt : nt ≤ ms) : ∀ (N : Nat) (a : Int × Int × LZ) (q : (Int × LZ) × Nat × Nat), lo2_LP_eviction_119 c0 c1 a2 c3 a4 a5 c7 N a = some q → ∀ k n, Bd k n kt nt q → inR a.1 → inR a.2.1 → (inR q.1.1 → GX sc M_LP_eviction mc ms 193 [(0, .ref c0), (1, .ref c1), (2, V a2), (3, .ref c3), (4, V a4), (5, V a5), (6, V q.1.1), (7, .ref c7)] [] (wz q.1.2) kt nt K) → GX sc M_LP_eviction mc ms 119 [(0, .ref c0), (1, .ref c1), (2, V a2), (3, .ref c3), (4, V a4), (5, V a5), (6, V a.1), (7, .ref c7), (8, V a.2.1)] [] (wz a.2.2) k n K := by
  refine lp_ind2 (P := fun (a : Int × Int × LZ) (q : (Int × LZ) × Nat × Nat) => ∀ k n, Bd k n kt nt q → inR a.1 → inR a.2.1 → (inR q.1.1 → GX sc M_LP_eviction mc ms 193 [(0, .ref c0), (1, .ref c1), (2, V a2), (3, .ref c3), (4, V a4), (5, V a5), (6, V q.1.1), (7, .ref c7)] [] (wz q.1.2) kt nt K) → GX sc M_LP_eviction mc ms 119 [(0, .ref c0), (1, .ref c1), (2, V a2), (3, .ref c3), (4, V a4), (5, V a5), (6, V a.1), (7, .ref c7), (8, V a.2.1)] [] (wz a.2.2) k n K) (fun go ih a q h => ?_)
  obtain ⟨a6, a8, ⟨S, L⟩⟩ := a
  intro k n hb ha6 ha8 hx
  show GX sc M_LP_eviction mc ms 119 [(0, .ref c0), (1, .ref c1), (2, V a2), (3, .ref c3), (4, V a4), (5, V a5), (6, V a6), (7, .ref c7), (8, V a8)] [] (wz (S, L)) k n K
  replace h : lb2_LP_eviction_119 c0 c1 a2 c3 a4 a5 c7 go a6 a8 S L = some q := h
  unfold lb2_LP_eviction_119 at h
  refine x_iload (pc := 119) (j := 8) (dK D_LP_eviction_1 7 rfl) rfl ?_
  refine x_aload (pc := 121) (j := 7) (dK D_LP_eviction_1 8 rfl) rfl ?_
  refine bnE h ?_
  clear h
  intro v42 e_v42 h
  refine wx_alm (pc := 123) e_v42 (dK D_LP_eviction_1 9 rfl) (fun i_v42 => ?_)
  refine wx_icmp_ge (pc := 124) (t := 193) (dK D_LP_eviction_1 10 rfl) rfl ha8 i_v42 (fun hc63 => ?_) (fun hc63 => ?_)
  · replace h := ifP h hc63
    obtain rfl := Option.some.inj h
    refine x_weak (ls' := [(0, .ref c0), (1, .ref c1), (2, V a2), (3, .ref c3), (4, V a4), (5, V a5), (6, V a6), (7, .ref c7)]) (sbc 0 rfl (sbc 1 rfl (sbc 2 rfl (sbc 3 rfl (sbc 4 rfl (sbc 5 rfl (sbc 6 rfl (sbc 7 rfl sbn)))))))) ?_
    refine x_room (bdk hb) (bdn hb) ?_
    exact hx ha6
  · replace h := ifN h hc63
    refine x_aload (pc := 127) (j := 7) (dK D_LP_eviction_1 11 rfl) rfl ?_
    refine x_iload (pc := 129) (j := 8) (dK D_LP_eviction_1 12 rfl) rfl ?_
    refine x_aloadn (pc := 131) (i0 := 3) (j := 3) (dK D_LP_eviction_1 13 rfl) rfl rfl ?_
    refine x_iload (pc := 132) (j := 8) (dK D_LP_eviction_1 14 rfl) rfl ?_
    refine gdE h ?_
    clear h
    intro hk44 h
    refine bnE h ?_
    clear h
    intro p43 e_p43 h
    refine x_callX (pc := 134) (As := [V a8]) (rest := [V a8, .ref c7]) (mc' := 0) (ms' := 0) (dK D_LP_eviction_1 15 rfl) Q_LP_87 sx_AL_get (fitK rfl) (isK_at (Z := (S, L)) (ci := 13) hk44) rfl (leK rfl) (Nat.le_trans (bdk hb) hkt) (Nat.le_trans (bdn hb) hnt) (tg_AL_get ha8 e_p43) (kxR (fun h_p43 => ?_))
    refine rfE h ?_
    clear h
    intro r45 e_r45 h
    rw [e_r45]
    refine gdE h ?_
    clear h
    intro hk46 h
    refine x_cast (pc := 137) (dK D_LP_eviction_1 16 rfl) q_861 (isK_at (Z := (S, L)) (ci := 11) hk46) ?_
    refine bnE h ?_
    clear h
    intro v47 e_v47 h
    refine wx_getI (pc := 140) (ci := 11) (f := 5) e_v47 (dK D_LP_eviction_1 17 rfl) q_888 (ltK rfl) (ltK rfl) ?_
    refine bnE h ?_
    clear h
    intro L48 e_L48 h
    refine wx_iast (Z := (S, L)) (pc := 143) (z := v47) e_L48 ha8 (dK D_LP_eviction_1 18 rfl) ?_
    refine x_iload (pc := 144) (j := 5) (dK D_LP_eviction_1 19 rfl) rfl ?_
    refine x_iload (pc := 146) (j := 8) (dK D_LP_eviction_1 20 rfl) rfl ?_
    refine wx_ishr (pc := 148) (dK D_LP_eviction_1 21 rfl) ?_
    refine wx_iconst (pc := 149) (dK D_LP_eviction_1 22 rfl) ?_
    refine wx_iand (pc := 150) (dK D_LP_eviction_1 23 rfl) ?_
    refine wx_if_ne (pc := 151) (t := 157) (dK D_LP_eviction_1 24 rfl) rfl (toInt_in _) (fun hc62 => ?_) (fun hc62 => ?_)
    · replace h := ifN h hc62
      refine x_iload (pc := 157) (j := 6) (dK D_LP_eviction_1 26 rfl) rfl ?_
      refine x_aloadn (pc := 159) (i0 := 3) (j := 3) (dK D_LP_eviction_1 27 rfl) rfl rfl ?_
      refine x_iload (pc := 160) (j := 8) (dK D_LP_eviction_1 28 rfl) rfl ?_
      refine gdE h ?_
      clear h
      intro hk50 h
      refine bnE h ?_
      clear h
      intro p49 e_p49 h
      refine x_callX (pc := 162) (As := [V a8]) (rest := [V a6]) (mc' := 0) (ms' := 0) (dK D_LP_eviction_1 29 rfl) Q_LP_87 sx_AL_get (fitK rfl) (isK_at (Z := (S, L48)) (ci := 13) hk50) rfl (leK rfl) (Nat.le_trans (bdk hb) hkt) (Nat.le_trans (bdn hb) hnt) (tg_AL_get ha8 e_p49) (kxR (fun h_p49 => ?_))
      refine rfE h ?_
      clear h
      intro r51 e_r51 h
      rw [e_r51]
      refine gdE h ?_
      clear h
      intro hk52 h
      refine x_cast (pc := 165) (dK D_LP_eviction_1 30 rfl) q_861 (isK_at (Z := (S, L48)) (ci := 11) hk52) ?_
      refine bnE h ?_
      clear h
      intro v53 e_v53 h
      refine wx_getI (pc := 168) (ci := 11) (f := 3) e_v53 (dK D_LP_eviction_1 31 rfl) q_883 (ltK rfl) (ltK rfl) ?_
      refine wx_iadd (pc := 171) (dK D_LP_eviction_1 32 rfl) ?_
      refine nmE h ?_
      clear h
      intro v54 e_v54 h
      refine wtop e_v54 ?_
      refine x_istore (pc := 172) (ls2 := [(6, V v54), (0, .ref c0), (1, .ref c1), (2, V a2), (3, .ref c3), (4, V a4), (5, V a5), (7, .ref c7), (8, V a8)]) (dK D_LP_eviction_1 33 rfl) (ltK rfl) rfl ?_
      refine x_aloadn (pc := 174) (i0 := 3) (j := 4) (dK D_LP_eviction_1 34 rfl) rfl rfl ?_
      refine x_iload (pc := 175) (j := 8) (dK D_LP_eviction_1 35 rfl) rfl ?_
      refine gdE h ?_
      clear h
      intro hk56 h
      refine bnE h ?_
      clear h
      intro p55 e_p55 h
      refine x_callX (pc := 177) (As := [V a8]) (rest := []) (mc' := 0) (ms' := 0) (dK D_LP_eviction_1 36 rfl) Q_LP_87 sx_AL_get (fitK rfl) (isK_at (Z := (S, L48)) (ci := 13) hk56) rfl (leK rfl) (Nat.le_trans (bdk hb) hkt) (Nat.le_trans (bdn hb) hnt) (tg_AL_get ha8 e_p55) (kxR (fun h_p55 => ?_))
      refine rfE h ?_
      clear h
      intro r57 e_r57 h
      rw [e_r57]
      refine gdE h ?_
      clear h
      intro hk58 h
      refine x_cast (pc := 180) (dK D_LP_eviction_1 37 rfl) q_861 (isK_at (Z := (S, L48)) (ci := 11) hk58) ?_
      refine wx_iconst (pc := 183) (dK D_LP_eviction_1 38 rfl) ?_
      refine bnE h ?_
      clear h
      intro L59 e_L59 h
      refine wx_put (Z := (S, L48)) (pc := 184) (ci := 11) (f := 5) e_L59 (dK D_LP_eviction_1 39 rfl) q_888 (ltK rfl) (ltK rfl) rfl okInt ?_
      refine nmE h ?_
      clear h
      intro v60 e_v60 h
      refine wx_iinc (pc := 187) (j := 8) (a := a8) (z := 1) (ls2 := [(8, V v60), (6, V v54), (0, .ref c0), (1, .ref c1), (2, V a2), (3, .ref c3), (4, V a4), (5, V a5), (7, .ref c7)]) (dK D_LP_eviction_1 40 rfl) rfl e_v60 (ltK rfl) rfl ?_
      refine x_goto (pc := 190) (tgt := 119) (dK D_LP_eviction_1 41 rfl) rfl ?_
      refine x_weak (ls' := [(0, .ref c0), (1, .ref c1), (2, V a2), (3, .ref c3), (4, V a4), (5, V a5), (6, V v54), (7, .ref c7), (8, V v60)]) (sbc 2 rfl (sbc 3 rfl (sbc 4 rfl (sbc 5 rfl (sbc 6 rfl (sbc 7 rfl (sbc 1 rfl (sbc 8 rfl (sbc 0 rfl sbn))))))))) ?_
      replace h := ih _ _ h
      exact h _ _ hb (Vn_in e_v54) (Vn_in e_v60) hx
    · replace h := ifP h hc62
      refine x_goto (pc := 154) (tgt := 187) (dK D_LP_eviction_1 25 rfl) rfl ?_
      refine nmE h ?_
      clear h
      intro v61 e_v61 h
      refine wx_iinc (pc := 187) (j := 8) (a := a8) (z := 1) (ls2 := [(8, V v61), (0, .ref c0), (1, .ref c1), (2, V a2), (3, .ref c3), (4, V a4), (5, V a5), (6, V a6), (7, .ref c7)]) (dK D_LP_eviction_1 40 rfl) rfl e_v61 (ltK rfl) rfl ?_
      refine x_goto (pc := 190) (tgt := 119) (dK D_LP_eviction_1 41 rfl) rfl ?_
      refine x_weak (ls' := [(0, .ref c0), (1, .ref c1), (2, V a2), (3, .ref c3), (4, V a4), (5, V a5), (6, V a6), (7, .ref c7), (8, V v61)]) (sbc 1 rfl (sbc 2 rfl (sbc 3 rfl (sbc 4 rfl (sbc 5 rfl (sbc 6 rfl (sbc 7 rfl (sbc 8 rfl (sbc 0 rfl sbn))))))))) ?_
      replace h := ih _ _ h
      exact h _ _ hb ha6 (Vn_in e_v61) hx
def lb2_LP_eviction_221 (c0 : Nat) (c1 : Nat) (a2 : Int) (c3 : Nat) (a4 : Int) (a5 : Int) (c7 : Nat) (go : Int × LZ → Option ((LZ) × Nat × Nat)) (a8 : Int) (S : St) (L : List PC) : Option ((LZ) × Nat × Nat) := bnO (alm L c7) fun v67 => if v67 ≤ a8 then (some ((S, L), 0, 0)) else (if isK L c3 13 = true then (bnO (gn_AL_get c3 a8 S L) fun p68 => rfB p68 fun r70 => if isK L r70 11 = true then (bnO (ald L 0 c7 a8) fun v72 => bnO (pf L r70 11 5 (V v72)) fun L73 => nm (wr (a8 + 1)) fun v74 => go (v74, (S, L73))) else none) else none)
def lo2_LP_eviction_221 (c0 : Nat) (c1 : Nat) (a2 : Int) (c3 : Nat) (a4 : Int) (a5 : Int) (c7 : Nat) : Nat → Int × LZ → Option ((LZ) × Nat × Nat) := lp fun go p => lb2_LP_eviction_221 c0 c1 a2 c3 a4 a5 c7 go p.1 p.2.1 p.2.2
theorem tl2_LP_eviction_221 {sc : SC} {c0 : Nat} {c1 : Nat} {a2 : Int} (ha2 : inR a2) {c3 : Nat} {a4 : Int} (ha4 : inR a4) {a5 : Int} (ha5 : inR a5) {c7 : Nat} {K : Option Value → List PC → Prop} {mc ms kt nt : Nat} (hkt : kt ≤ mc) (hnt : nt ≤ ms) : ∀ (N : Nat) (a : Int × LZ) (q : (LZ) × Nat × Nat), lo2_LP_eviction_221 c0 c1 a2 c3 a4 a5 c7 N a = some q → ∀ k n, Bd k n kt nt q → inR a.1 → (GX sc M_LP_eviction mc ms 252 [(0, .ref c0), (1, .ref c1), (2, V a2), (3, .ref c3), (4, V a4), (5, V a5)] [] (wz q.1) kt nt K) → GX sc M_LP_eviction mc ms 221 [(0, .ref c0), (1, .ref c1), (2, V a2), (3, .ref c3), (4, V a4), (5, V a5), (7, .ref c7), (8, V a.1)] [] (wz a.2) k n K := by
  refine lp_ind2 (P := fun (a : Int × LZ) (q : (LZ) × Nat × Nat) => ∀ k n, Bd k n kt nt q → inR a.1 → (GX sc M_LP_eviction mc ms 252 [(0, .ref c0), (1, .ref c1), (2, V a2), (3, .ref c3), (4, V a4), (5, V a5)] [] (wz q.1) kt nt K) → GX sc M_LP_eviction mc ms 221 [(0, .ref c0), (1, .ref c1), (2, V a2), (3, .ref c3), (4, V a4), (5, V a5), (7, .ref c7), (8, V a.1)] [] (wz a.2) k n K) (fun go ih a q h => ?_)
  obtain ⟨a8, ⟨S, L⟩⟩ := a
  intro k n hb ha8 hx
  show GX sc M_LP_eviction mc ms 221 [(0, .ref c0), (1, .ref c1), (2, V a2), (3, .ref c3), (4, V a4), (5, V a5), (7, .ref c7), (8, V a8)] [] (wz (S, L)) k n K
  replace h : lb2_LP_eviction_221 c0 c1 a2 c3 a4 a5 c7 go a8 S L = some q := h
  unfold lb2_LP_eviction_221 at h
  refine x_iload (pc := 221) (j := 7) (dK D_LP_eviction_2 6 rfl) rfl ?_
  refine x_aload (pc := 223) (j := 6) (dK D_LP_eviction_2 7 rfl) rfl ?_
  refine bnE h ?_
  clear h
  intro v67 e_v67 h
  refine wx_alm (pc := 225) e_v67 (dK D_LP_eviction_2 8 rfl) (fun i_v67 => ?_)
  refine wx_icmp_ge (pc := 226) (t := 252) (dK D_LP_eviction_2 9 rfl) rfl ha8 i_v67 (fun hc75 => ?_) (fun hc75 => ?_)
  · replace h := ifP h hc75
    obtain rfl := Option.some.inj h
    refine x_weak (ls' := [(0, .ref c0), (1, .ref c1), (2, V a2), (3, .ref c3), (4, V a4), (5, V a5)]) (sbc 0 rfl (sbc 1 rfl (sbc 2 rfl (sbc 3 rfl (sbc 4 rfl (sbc 5 rfl sbn)))))) ?_
    refine x_room (bdk hb) (bdn hb) ?_
    exact hx 
  · replace h := ifN h hc75
    refine x_aloadn (pc := 229) (i0 := 3) (j := 3) (dK D_LP_eviction_2 10 rfl) rfl rfl ?_
    refine x_iload (pc := 230) (j := 7) (dK D_LP_eviction_2 11 rfl) rfl ?_
    refine gdE h ?_
    clear h
    intro hk69 h
    refine bnE h ?_
    clear h
    intro p68 e_p68 h
    refine x_callX (pc := 232) (As := [V a8]) (rest := []) (mc' := 0) (ms' := 0) (dK D_LP_eviction_2 12 rfl) Q_LP_87 sx_AL_get (fitK rfl) (isK_at (Z := (S, L)) (ci := 13) hk69) rfl (leK rfl) (Nat.le_trans (bdk hb) hkt) (Nat.le_trans (bdn hb) hnt) (tg_AL_get ha8 e_p68) (kxR (fun h_p68 => ?_))
    refine rfE h ?_
    clear h
    intro r70 e_r70 h
    rw [e_r70]
    refine gdE h ?_
    clear h
    intro hk71 h
    refine x_cast (pc := 235) (dK D_LP_eviction_2 13 rfl) q_861 (isK_at (Z := (S, L)) (ci := 11) hk71) ?_
    refine x_aload (pc := 238) (j := 6) (dK D_LP_eviction_2 14 rfl) rfl ?_
    refine x_iload (pc := 240) (j := 7) (dK D_LP_eviction_2 15 rfl) rfl ?_
    refine bnE h ?_
    clear h
    intro v72 e_v72 h
    refine wx_iald (pc := 242) e_v72 ha8 (dK D_LP_eviction_2 16 rfl) ?_
    refine bnE h ?_
    clear h
    intro L73 e_L73 h
    refine wx_put (Z := (S, L)) (pc := 243) (ci := 11) (f := 5) e_L73 (dK D_LP_eviction_2 17 rfl) q_888 (ltK rfl) (ltK rfl) rfl okInt ?_
    refine nmE h ?_
    clear h
    intro v74 e_v74 h
    refine wx_iinc (pc := 246) (j := 7) (a := a8) (z := 1) (ls2 := [(8, V v74), (0, .ref c0), (1, .ref c1), (2, V a2), (3, .ref c3), (4, V a4), (5, V a5), (7, .ref c7)]) (dK D_LP_eviction_2 18 rfl) rfl e_v74 (ltK rfl) rfl ?_
    refine x_goto (pc := 249) (tgt := 221) (dK D_LP_eviction_2 19 rfl) rfl ?_
    refine x_weak (ls' := [(0, .ref c0), (1, .ref c1), (2, V a2), (3, .ref c3), (4, V a4), (5, V a5), (7, .ref c7), (8, V v74)]) (sbc 1 rfl (sbc 2 rfl (sbc 3 rfl (sbc 4 rfl (sbc 5 rfl (sbc 6 rfl (sbc 7 rfl (sbc 0 rfl sbn)))))))) ?_
    replace h := ih _ _ h
    exact h _ _ hb (Vn_in e_v74) hx
def lb2_LP_eviction_94 (c0 : Nat) (c1 : Nat) (a2 : Int) (c3 : Nat) (go : Int × Int × LZ → Option ((Int × LZ) × Nat × Nat)) (a4 : Int) (a5 : Int) (S : St) (L : List PC) : Option ((Int × LZ) × Nat × Nat) := if isK L c3 13 = true then (bnO (gn_AL_size c3 S L) fun p33 => if (i_shl 1 p33) ≤ a5 then (some ((a4, (S, L)), 0, 0)) else (if isK L c3 13 = true then (bnO (gn_AL_size c3 S L) fun p35 => if (0 : Int) ≤ p35 ∧ (p35 : Int) ≤ 16384 then (if L.length < 900000000 then adC 1 p35.toNat (nw L (100, List.replicate p35.toNat (.int 0)) fun r40 L41 => bnO (lo2_LP_eviction_119 c0 c1 a2 c3 a4 a5 r40 FU (0, 0, (S, L41))) fun p64 => adC p64.2.1 p64.2.2 (if a4 < 0 then (if isK p64.1.2.2 c0 12 = true then (bnO (gn_LP_reason c0 c1 a2 p64.1.2.1 p64.1.2.2) fun p65 => adC p65.2.1 p65.2.2 (if p65.1.1 = 0 then (bnO (lo2_LP_eviction_221 c0 c1 a2 c3 p64.1.1 a5 r40 FU (0, (p65.1.2.1, p65.1.2.2))) fun p78 => adC p78.2.1 p78.2.2 (nm (wr (a5 + 1)) fun v79 => go (p64.1.1, v79, (p78.1.1, p78.1.2)))) else (bnO (lo2_LP_eviction_221 c0 c1 a2 c3 a4 a5 r40 FU (0, (p65.1.2.1, p65.1.2.2))) fun p76 => adC p76.2.1 p76.2.2 (nm (wr (a5 + 1)) fun v77 => go (a4, v77, (p76.1.1, p76.1.2)))))) else none) else (if a4 ≤ p64.1.1 then (bnO (lo2_LP_eviction_221 c0 c1 a2 c3 a4 a5 r40 FU (0, (p64.1.2.1, p64.1.2.2))) fun p81 => adC p81.2.1 p81.2.2 (nm (wr (a5 + 1)) fun v82 => go (a4, v82, (p81.1.1, p81.1.2)))) else (if isK p64.1.2.2 c0 12 = true then (bnO (gn_LP_reason c0 c1 a2 p64.1.2.1 p64.1.2.2) fun p83 => adC p83.2.1 p83.2.2 (if p83.1.1 = 0 then (bnO (lo2_LP_eviction_221 c0 c1 a2 c3 p64.1.1 a5 r40 FU (0, (p83.1.2.1, p83.1.2.2))) fun p87 => adC p87.2.1 p87.2.2 (nm (wr (a5 + 1)) fun v88 => go (p64.1.1, v88, (p87.1.1, p87.1.2)))) else (bnO (lo2_LP_eviction_221 c0 c1 a2 c3 a4 a5 r40 FU (0, (p83.1.2.1, p83.1.2.2))) fun p85 => adC p85.2.1 p85.2.2 (nm (wr (a5 + 1)) fun v86 => go (a4, v86, (p85.1.1, p85.1.2)))))) else none)))) else none) else none) else none)) else none
def lo2_LP_eviction_94 (c0 : Nat) (c1 : Nat) (a2 : Int) (c3 : Nat) : Nat → Int × Int × LZ → Option ((Int × LZ) × Nat × Nat) := lp fun go p => lb2_LP_eviction_94 c0 c1 a2 c3 go p.1 p.2.1 p.2.2.1 p.2.2.2
theorem tl2_LP_eviction_94 {sc : SC} {c0 : Nat} {c1 : Nat} {a2 : Int} (ha2 : inR a2) {c3 : Nat} {K : Option Value → List PC → Prop} {mc ms kt nt : Nat} (hkt : kt ≤ mc) (hnt : nt ≤ ms) : ∀ (N : Nat) (a : Int × Int × LZ) (q : (Int × LZ) × Nat × Nat), lo2_LP_eviction_94 c0 c1 a2 c3 N a = some q → ∀ k n, Bd k n kt nt q → inR a.1 → inR a.2.1 → (inR q.1.1 → GX sc M_LP_eviction mc ms 258 [(4, V q.1.1)] [] (wz q.1.2) kt nt K) → GX sc M_LP_eviction mc ms 94 [(0, .ref c0), (1, .ref c1), (2, V a2), (3, .ref c3), (4, V a.1), (5, V a.2.1)] [] (wz a.2.2) k n K := by
  refine lp_ind2 (P := fun (a : Int × Int × LZ) (q : (Int × LZ) × Nat × Nat) => ∀ k n, Bd k n kt nt q → inR a.1 → inR a.2.1 → (inR q.1.1 → GX sc M_LP_eviction mc ms 258 [(4, V q.1.1)] [] (wz q.1.2) kt nt K) → GX sc M_LP_eviction mc ms 94 [(0, .ref c0), (1, .ref c1), (2, V a2), (3, .ref c3), (4, V a.1), (5, V a.2.1)] [] (wz a.2.2) k n K) (fun go ih a q h => ?_)
  obtain ⟨a4, a5, ⟨S, L⟩⟩ := a
  intro k n hb ha4 ha5 hx
  show GX sc M_LP_eviction mc ms 94 [(0, .ref c0), (1, .ref c1), (2, V a2), (3, .ref c3), (4, V a4), (5, V a5)] [] (wz (S, L)) k n K
  replace h : lb2_LP_eviction_94 c0 c1 a2 c3 go a4 a5 S L = some q := h
  unfold lb2_LP_eviction_94 at h
  refine x_iload (pc := 94) (j := 5) (dK D_LP_eviction_0 43 rfl) rfl ?_
  refine wx_iconst (pc := 96) (dK D_LP_eviction_0 44 rfl) ?_
  refine x_aloadn (pc := 97) (i0 := 3) (j := 3) (dK D_LP_eviction_0 45 rfl) rfl rfl ?_
  refine gdE h ?_
  clear h
  intro hk34 h
  refine bnE h ?_
  clear h
  intro p33 e_p33 h
  refine x_callX (pc := 98) (As := []) (rest := [V 1, V a5]) (mc' := 0) (ms' := 0) (dK D_LP_eviction_0 46 rfl) Q_LP_83 sx_AL_size (fitK rfl) (isK_at (Z := (S, L)) (ci := 13) hk34) rfl (leK rfl) (Nat.le_trans (bdk hb) hkt) (Nat.le_trans (bdn hb) hnt) (tg_AL_size  e_p33) (kxI' (fun h_p33 => ?_))
  refine wx_ishl (pc := 101) (dK D_LP_eviction_0 47 rfl) ?_
  refine wx_icmp_ge (pc := 102) (t := 258) (dK D_LP_eviction_0 48 rfl) rfl ha5 (toInt_in _) (fun hc92 => ?_) (fun hc92 => ?_)
  · replace h := ifP h hc92
    obtain rfl := Option.some.inj h
    refine x_weak (ls' := [(4, V a4)]) (sbc 4 rfl sbn) ?_
    refine x_room (bdk hb) (bdn hb) ?_
    exact hx ha4
  · replace h := ifN h hc92
    refine wx_iconst (pc := 105) (dK D_LP_eviction_0 49 rfl) ?_
    refine x_istore (pc := 106) (ls2 := [(6, V 0), (0, .ref c0), (1, .ref c1), (2, V a2), (3, .ref c3), (4, V a4), (5, V a5)]) (dK D_LP_eviction_1 0 rfl) (ltK rfl) rfl ?_
    refine x_aloadn (pc := 108) (i0 := 3) (j := 4) (dK D_LP_eviction_1 1 rfl) rfl rfl ?_
    refine gdE h ?_
    clear h
    intro hk36 h
    refine bnE h ?_
    clear h
    intro p35 e_p35 h
    refine x_callX (pc := 109) (As := []) (rest := []) (mc' := 0) (ms' := 0) (dK D_LP_eviction_1 2 rfl) Q_LP_83 sx_AL_size (fitK rfl) (isK_at (Z := (S, L)) (ci := 13) hk36) rfl (leK rfl) (Nat.le_trans (bdk hb) hkt) (Nat.le_trans (bdn hb) hnt) (tg_AL_size  e_p35) (kxI' (fun h_p35 => ?_))
    refine gdE h ?_
    clear h
    intro hz37 h
    refine gdE h ?_
    clear h
    intro hl38 h
    obtain ⟨y39, h9, e9⟩ := adE2 h
    clear h
    subst e9
    have h := h9
    clear h9
    refine nwE h ?_
    clear h
    intro r40 L41 e_r40 e_L41 h
    have hk1 := Nat.le_trans (bd1 hb) hkt
    have hn1 := Nat.le_trans (bd2 hb) hnt
    replace hb := bdA hb
    refine wn_newa_int (Z := (S, L)) (pc := 112) e_r40 e_L41 hl38 h_p35 hz37 (dK D_LP_eviction_1 3 rfl) q_68 hk1 hn1 ?_
    refine x_astore (pc := 114) (ls2 := [(7, .ref r40), (6, V 0), (0, .ref c0), (1, .ref c1), (2, V a2), (3, .ref c3), (4, V a4), (5, V a5)]) (dK D_LP_eviction_1 4 rfl) (ltK rfl) rfl ?_
    refine wx_iconst (pc := 116) (dK D_LP_eviction_1 5 rfl) ?_
    refine x_istore (pc := 117) (ls2 := [(8, V 0), (7, .ref r40), (6, V 0), (0, .ref c0), (1, .ref c1), (2, V a2), (3, .ref c3), (4, V a4), (5, V a5)]) (dK D_LP_eviction_1 6 rfl) (ltK rfl) rfl ?_
    refine bnE h ?_
    clear h
    intro p64 e_p64 h
    obtain ⟨yp64, h9, e9⟩ := adE2 h
    clear h
    subst e9
    have h := h9
    clear h9
    have hk1 := Nat.le_trans (bd1 hb) hkt
    have hn1 := Nat.le_trans (bd2 hb) hnt
    replace hb := bdA hb
    refine x_weak (ls' := [(0, .ref c0), (1, .ref c1), (2, V a2), (3, .ref c3), (4, V a4), (5, V a5), (6, V 0), (7, .ref r40), (8, V 0)]) (sbc 3 rfl (sbc 4 rfl (sbc 5 rfl (sbc 6 rfl (sbc 7 rfl (sbc 8 rfl (sbc 2 rfl (sbc 1 rfl (sbc 0 rfl sbn))))))))) ?_
    refine tl2_LP_eviction_119 ha2 ha4 ha5 hk1 hn1 FU _ _ e_p64 _ _ ⟨Nat.le_refl _, Nat.le_refl _⟩ (inRk rfl) (inRk rfl) (fun hx6_p64 => ?_)
    refine x_iload (pc := 193) (j := 4) (dK D_LP_eviction_1 42 rfl) rfl ?_
    refine wx_if_lt (pc := 195) (t := 205) (dK D_LP_eviction_1 43 rfl) rfl ha4 (fun hc91 => ?_) (fun hc91 => ?_)
    · replace h := ifP h hc91
      refine x_aloadn (pc := 205) (i0 := 0) (j := 0) (dK D_LP_eviction_1 47 rfl) rfl rfl ?_
      refine x_aloadn (pc := 206) (i0 := 1) (j := 1) (dK D_LP_eviction_1 48 rfl) rfl rfl ?_
      refine x_iloadn (pc := 207) (i0 := 2) (j := 2) (dK D_LP_eviction_1 49 rfl) rfl rfl ?_
      refine gdE h ?_
      clear h
      intro hk66 h
      refine bnE h ?_
      clear h
      intro p65 e_p65 h
      obtain ⟨yp65, h9, e9⟩ := adE2 h
      clear h
      subst e9
      have h := h9
      clear h9
      have hk1 := Nat.le_trans (bd1 hb) hkt
      have hn1 := Nat.le_trans (bd2 hb) hnt
      replace hb := bdA hb
      refine x_callX (pc := 208) (As := [.ref c1, V a2]) (rest := []) (mc' := p65.2.1) (ms' := p65.2.2) (dK D_LP_eviction_2 0 rfl) Q_LP_164 sx_LP_reason (fitK rfl) (isK_at (Z := (p64.1.2.1, p64.1.2.2)) (ci := 12) hk66) rfl (leK rfl) hk1 hn1 (tg_LP_reason ha2 e_p65) (kxI' (fun h_p65 => ?_))
      refine wx_if_ne (pc := 211) (t := 218) (dK D_LP_eviction_2 1 rfl) rfl h_p65 (fun hc80 => ?_) (fun hc80 => ?_)
      · replace h := ifN h hc80
        refine wx_iconst (pc := 218) (dK D_LP_eviction_2 4 rfl) ?_
        refine x_istore (pc := 219) (ls2 := [(8, V 0), (0, .ref c0), (1, .ref c1), (2, V a2), (3, .ref c3), (4, V a4), (5, V a5), (6, V p64.1.1), (7, .ref r40)]) (dK D_LP_eviction_2 5 rfl) (ltK rfl) rfl ?_
        refine bnE h ?_
        clear h
        intro p76 e_p76 h
        obtain ⟨yp76, h9, e9⟩ := adE2 h
        clear h
        subst e9
        have h := h9
        clear h9
        have hk1 := Nat.le_trans (bd1 hb) hkt
        have hn1 := Nat.le_trans (bd2 hb) hnt
        replace hb := bdA hb
        refine x_weak (ls' := [(0, .ref c0), (1, .ref c1), (2, V a2), (3, .ref c3), (4, V a4), (5, V a5), (7, .ref r40), (8, V 0)]) (sbc 1 rfl (sbc 2 rfl (sbc 3 rfl (sbc 4 rfl (sbc 5 rfl (sbc 6 rfl (sbc 8 rfl (sbc 0 rfl sbn)))))))) ?_
        refine tl2_LP_eviction_221 ha2 ha4 ha5 hk1 hn1 FU _ _ e_p76 _ _ ⟨Nat.le_refl _, Nat.le_refl _⟩ (inRk rfl) ?_
        refine nmE h ?_
        clear h
        intro v77 e_v77 h
        refine wx_iinc (pc := 252) (j := 5) (a := a5) (z := 1) (ls2 := [(5, V v77), (0, .ref c0), (1, .ref c1), (2, V a2), (3, .ref c3), (4, V a4)]) (dK D_LP_eviction_2 20 rfl) rfl e_v77 (ltK rfl) rfl ?_
        refine x_goto (pc := 255) (tgt := 94) (dK D_LP_eviction_2 21 rfl) rfl ?_
        refine x_weak (ls' := [(0, .ref c0), (1, .ref c1), (2, V a2), (3, .ref c3), (4, V a4), (5, V v77)]) (sbc 1 rfl (sbc 2 rfl (sbc 3 rfl (sbc 4 rfl (sbc 5 rfl (sbc 0 rfl sbn)))))) ?_
        replace h := ih _ _ h
        exact h _ _ hb ha4 (Vn_in e_v77) hx
      · replace h := ifP h hc80
        refine x_iload (pc := 214) (j := 6) (dK D_LP_eviction_2 2 rfl) rfl ?_
        refine x_istore (pc := 216) (ls2 := [(4, V p64.1.1), (0, .ref c0), (1, .ref c1), (2, V a2), (3, .ref c3), (5, V a5), (6, V p64.1.1), (7, .ref r40)]) (dK D_LP_eviction_2 3 rfl) (ltK rfl) rfl ?_
        refine wx_iconst (pc := 218) (dK D_LP_eviction_2 4 rfl) ?_
        refine x_istore (pc := 219) (ls2 := [(8, V 0), (4, V p64.1.1), (0, .ref c0), (1, .ref c1), (2, V a2), (3, .ref c3), (5, V a5), (6, V p64.1.1), (7, .ref r40)]) (dK D_LP_eviction_2 5 rfl) (ltK rfl) rfl ?_
        refine bnE h ?_
        clear h
        intro p78 e_p78 h
        obtain ⟨yp78, h9, e9⟩ := adE2 h
        clear h
        subst e9
        have h := h9
        clear h9
        have hk1 := Nat.le_trans (bd1 hb) hkt
        have hn1 := Nat.le_trans (bd2 hb) hnt
        replace hb := bdA hb
        refine x_weak (ls' := [(0, .ref c0), (1, .ref c1), (2, V a2), (3, .ref c3), (4, V p64.1.1), (5, V a5), (7, .ref r40), (8, V 0)]) (sbc 2 rfl (sbc 3 rfl (sbc 4 rfl (sbc 5 rfl (sbc 1 rfl (sbc 6 rfl (sbc 8 rfl (sbc 0 rfl sbn)))))))) ?_
        refine tl2_LP_eviction_221 ha2 hx6_p64 ha5 hk1 hn1 FU _ _ e_p78 _ _ ⟨Nat.le_refl _, Nat.le_refl _⟩ (inRk rfl) ?_
        refine nmE h ?_
        clear h
        intro v79 e_v79 h
        refine wx_iinc (pc := 252) (j := 5) (a := a5) (z := 1) (ls2 := [(5, V v79), (0, .ref c0), (1, .ref c1), (2, V a2), (3, .ref c3), (4, V p64.1.1)]) (dK D_LP_eviction_2 20 rfl) rfl e_v79 (ltK rfl) rfl ?_
        refine x_goto (pc := 255) (tgt := 94) (dK D_LP_eviction_2 21 rfl) rfl ?_
        refine x_weak (ls' := [(0, .ref c0), (1, .ref c1), (2, V a2), (3, .ref c3), (4, V p64.1.1), (5, V v79)]) (sbc 1 rfl (sbc 2 rfl (sbc 3 rfl (sbc 4 rfl (sbc 5 rfl (sbc 0 rfl sbn)))))) ?_
        replace h := ih _ _ h
        exact h _ _ hb hx6_p64 (Vn_in e_v79) hx
    · replace h := ifN h hc91
      refine x_iload (pc := 198) (j := 6) (dK D_LP_eviction_1 44 rfl) rfl ?_
      refine x_iload (pc := 200) (j := 4) (dK D_LP_eviction_1 45 rfl) rfl ?_
      refine wx_icmp_ge (pc := 202) (t := 218) (dK D_LP_eviction_1 46 rfl) rfl hx6_p64 ha4 (fun hc90 => ?_) (fun hc90 => ?_)
      · replace h := ifP h hc90
        refine wx_iconst (pc := 218) (dK D_LP_eviction_2 4 rfl) ?_
        refine x_istore (pc := 219) (ls2 := [(8, V 0), (0, .ref c0), (1, .ref c1), (2, V a2), (3, .ref c3), (4, V a4), (5, V a5), (6, V p64.1.1), (7, .ref r40)]) (dK D_LP_eviction_2 5 rfl) (ltK rfl) rfl ?_
        refine bnE h ?_
        clear h
        intro p81 e_p81 h
        obtain ⟨yp81, h9, e9⟩ := adE2 h
        clear h
        subst e9
        have h := h9
        clear h9
        have hk1 := Nat.le_trans (bd1 hb) hkt
        have hn1 := Nat.le_trans (bd2 hb) hnt
        replace hb := bdA hb
        refine x_weak (ls' := [(0, .ref c0), (1, .ref c1), (2, V a2), (3, .ref c3), (4, V a4), (5, V a5), (7, .ref r40), (8, V 0)]) (sbc 1 rfl (sbc 2 rfl (sbc 3 rfl (sbc 4 rfl (sbc 5 rfl (sbc 6 rfl (sbc 8 rfl (sbc 0 rfl sbn)))))))) ?_
        refine tl2_LP_eviction_221 ha2 ha4 ha5 hk1 hn1 FU _ _ e_p81 _ _ ⟨Nat.le_refl _, Nat.le_refl _⟩ (inRk rfl) ?_
        refine nmE h ?_
        clear h
        intro v82 e_v82 h
        refine wx_iinc (pc := 252) (j := 5) (a := a5) (z := 1) (ls2 := [(5, V v82), (0, .ref c0), (1, .ref c1), (2, V a2), (3, .ref c3), (4, V a4)]) (dK D_LP_eviction_2 20 rfl) rfl e_v82 (ltK rfl) rfl ?_
        refine x_goto (pc := 255) (tgt := 94) (dK D_LP_eviction_2 21 rfl) rfl ?_
        refine x_weak (ls' := [(0, .ref c0), (1, .ref c1), (2, V a2), (3, .ref c3), (4, V a4), (5, V v82)]) (sbc 1 rfl (sbc 2 rfl (sbc 3 rfl (sbc 4 rfl (sbc 5 rfl (sbc 0 rfl sbn)))))) ?_
        replace h := ih _ _ h
        exact h _ _ hb ha4 (Vn_in e_v82) hx
      · replace h := ifN h hc90
        refine x_aloadn (pc := 205) (i0 := 0) (j := 0) (dK D_LP_eviction_1 47 rfl) rfl rfl ?_
        refine x_aloadn (pc := 206) (i0 := 1) (j := 1) (dK D_LP_eviction_1 48 rfl) rfl rfl ?_
        refine x_iloadn (pc := 207) (i0 := 2) (j := 2) (dK D_LP_eviction_1 49 rfl) rfl rfl ?_
        refine gdE h ?_
        clear h
        intro hk84 h
        refine bnE h ?_
        clear h
        intro p83 e_p83 h
        obtain ⟨yp83, h9, e9⟩ := adE2 h
        clear h
        subst e9
        have h := h9
        clear h9
        have hk1 := Nat.le_trans (bd1 hb) hkt
        have hn1 := Nat.le_trans (bd2 hb) hnt
        replace hb := bdA hb
        refine x_callX (pc := 208) (As := [.ref c1, V a2]) (rest := []) (mc' := p83.2.1) (ms' := p83.2.2) (dK D_LP_eviction_2 0 rfl) Q_LP_164 sx_LP_reason (fitK rfl) (isK_at (Z := (p64.1.2.1, p64.1.2.2)) (ci := 12) hk84) rfl (leK rfl) hk1 hn1 (tg_LP_reason ha2 e_p83) (kxI' (fun h_p83 => ?_))
        refine wx_if_ne (pc := 211) (t := 218) (dK D_LP_eviction_2 1 rfl) rfl h_p83 (fun hc89 => ?_) (fun hc89 => ?_)
        · replace h := ifN h hc89
          refine wx_iconst (pc := 218) (dK D_LP_eviction_2 4 rfl) ?_
          refine x_istore (pc := 219) (ls2 := [(8, V 0), (0, .ref c0), (1, .ref c1), (2, V a2), (3, .ref c3), (4, V a4), (5, V a5), (6, V p64.1.1), (7, .ref r40)]) (dK D_LP_eviction_2 5 rfl) (ltK rfl) rfl ?_
          refine bnE h ?_
          clear h
          intro p85 e_p85 h
          obtain ⟨yp85, h9, e9⟩ := adE2 h
          clear h
          subst e9
          have h := h9
          clear h9
          have hk1 := Nat.le_trans (bd1 hb) hkt
          have hn1 := Nat.le_trans (bd2 hb) hnt
          replace hb := bdA hb
          refine x_weak (ls' := [(0, .ref c0), (1, .ref c1), (2, V a2), (3, .ref c3), (4, V a4), (5, V a5), (7, .ref r40), (8, V 0)]) (sbc 1 rfl (sbc 2 rfl (sbc 3 rfl (sbc 4 rfl (sbc 5 rfl (sbc 6 rfl (sbc 8 rfl (sbc 0 rfl sbn)))))))) ?_
          refine tl2_LP_eviction_221 ha2 ha4 ha5 hk1 hn1 FU _ _ e_p85 _ _ ⟨Nat.le_refl _, Nat.le_refl _⟩ (inRk rfl) ?_
          refine nmE h ?_
          clear h
          intro v86 e_v86 h
          refine wx_iinc (pc := 252) (j := 5) (a := a5) (z := 1) (ls2 := [(5, V v86), (0, .ref c0), (1, .ref c1), (2, V a2), (3, .ref c3), (4, V a4)]) (dK D_LP_eviction_2 20 rfl) rfl e_v86 (ltK rfl) rfl ?_
          refine x_goto (pc := 255) (tgt := 94) (dK D_LP_eviction_2 21 rfl) rfl ?_
          refine x_weak (ls' := [(0, .ref c0), (1, .ref c1), (2, V a2), (3, .ref c3), (4, V a4), (5, V v86)]) (sbc 1 rfl (sbc 2 rfl (sbc 3 rfl (sbc 4 rfl (sbc 5 rfl (sbc 0 rfl sbn)))))) ?_
          replace h := ih _ _ h
          exact h _ _ hb ha4 (Vn_in e_v86) hx
        · replace h := ifP h hc89
          refine x_iload (pc := 214) (j := 6) (dK D_LP_eviction_2 2 rfl) rfl ?_
          refine x_istore (pc := 216) (ls2 := [(4, V p64.1.1), (0, .ref c0), (1, .ref c1), (2, V a2), (3, .ref c3), (5, V a5), (6, V p64.1.1), (7, .ref r40)]) (dK D_LP_eviction_2 3 rfl) (ltK rfl) rfl ?_
          refine wx_iconst (pc := 218) (dK D_LP_eviction_2 4 rfl) ?_
          refine x_istore (pc := 219) (ls2 := [(8, V 0), (4, V p64.1.1), (0, .ref c0), (1, .ref c1), (2, V a2), (3, .ref c3), (5, V a5), (6, V p64.1.1), (7, .ref r40)]) (dK D_LP_eviction_2 5 rfl) (ltK rfl) rfl ?_
          refine bnE h ?_
          clear h
          intro p87 e_p87 h
          obtain ⟨yp87, h9, e9⟩ := adE2 h
          clear h
          subst e9
          have h := h9
          clear h9
          have hk1 := Nat.le_trans (bd1 hb) hkt
          have hn1 := Nat.le_trans (bd2 hb) hnt
          replace hb := bdA hb
          refine x_weak (ls' := [(0, .ref c0), (1, .ref c1), (2, V a2), (3, .ref c3), (4, V p64.1.1), (5, V a5), (7, .ref r40), (8, V 0)]) (sbc 2 rfl (sbc 3 rfl (sbc 4 rfl (sbc 5 rfl (sbc 1 rfl (sbc 6 rfl (sbc 8 rfl (sbc 0 rfl sbn)))))))) ?_
          refine tl2_LP_eviction_221 ha2 hx6_p64 ha5 hk1 hn1 FU _ _ e_p87 _ _ ⟨Nat.le_refl _, Nat.le_refl _⟩ (inRk rfl) ?_
          refine nmE h ?_
          clear h
          intro v88 e_v88 h
          refine wx_iinc (pc := 252) (j := 5) (a := a5) (z := 1) (ls2 := [(5, V v88), (0, .ref c0), (1, .ref c1), (2, V a2), (3, .ref c3), (4, V p64.1.1)]) (dK D_LP_eviction_2 20 rfl) rfl e_v88 (ltK rfl) rfl ?_
          refine x_goto (pc := 255) (tgt := 94) (dK D_LP_eviction_2 21 rfl) rfl ?_
          refine x_weak (ls' := [(0, .ref c0), (1, .ref c1), (2, V a2), (3, .ref c3), (4, V p64.1.1), (5, V v88)]) (sbc 1 rfl (sbc 2 rfl (sbc 3 rfl (sbc 4 rfl (sbc 5 rfl (sbc 0 rfl sbn)))))) ?_
          replace h := ih _ _ h
          exact h _ _ hb hx6_p64 (Vn_in e_v88) hx
def gn_LP_eviction (c0 : Nat) (c1 : Nat) (a2 : Int) (S : St) (L : List PC) : Option ((Int × LZ) × Nat × Nat) := if L.length < 900000000 then adC 1 3 (nw L (13, dfl 13) fun r2 L3 => bnO (gn_AL_init r2 S L3) fun p5 => adC p5.2.1 p5.2.2 (bnO (gfV p5.1.2 c0 12 4) fun v6 => rfB v6 fun r7 => if isK p5.1.2 r7 13 = true then (bnO (gn_AL_iterator r7 p5.1.1 p5.1.2) fun p8 => adC p8.2.1 p8.2.2 (rfB p8.1.1 fun r10 => bnO (lo2_LP_eviction_17 c0 c1 a2 r2 r10 FU (p8.1.2.1, p8.1.2.2)) fun p32 => adC p32.2.1 p32.2.2 (bnO (lo2_LP_eviction_94 c0 c1 a2 r2 FU ((-1), 0, (p32.1.1, p32.1.2))) fun p93 => adC p93.2.1 p93.2.2 (some ((p93.1.1, (p93.1.2.1, p93.1.2.2)), 0, 0))))) else none)) else none
theorem te_LP_eviction {sc : SC} {c0 : Nat} {c1 : Nat} {a2 : Int} (ha2 : inR a2) {S : St} {L : List PC} {q : (Int × LZ) × Nat × Nat} (h : gn_LP_eviction c0 c1 a2 S L = some q) {mc ms k n : Nat} (hb : Bd k n mc ms q) : GX sc M_LP_eviction mc ms 0 [(0, .ref c0), (1, .ref c1), (2, V a2)] [] (wz (S, L)) k n (KXI q.1.1 q.1.2) := by
  unfold gn_LP_eviction at h
  refine gdE h ?_
  clear h
  intro hl1 h
  obtain ⟨y4, h9, e9⟩ := adE2 h
  clear h
  subst e9
  have h := h9
  clear h9
  refine nwE h ?_
  clear h
  intro r2 L3 e_r2 e_L3 h
  have hk1 := bd1 hb
  have hn1 := bd2 hb
  replace hb := bdA hb
  refine wn_new (Z := (S, L)) (pc := 0) (ci := 13) (N := 3) e_r2 e_L3 hl1 rfl (dK D_LP_eviction_0 0 rfl) (ltK rfl) q_738 q_739 q_17 hk1 hn1 ?_
  refine x_dup (pc := 3) (dK D_LP_eviction_0 1 rfl) rfl ?_
  refine bnE h ?_
  clear h
  intro p5 e_p5 h
  obtain ⟨yp5, h9, e9⟩ := adE2 h
  clear h
  subst e9
  have h := h9
  clear h9
  have hk1 := bd1 hb
  have hn1 := bd2 hb
  replace hb := bdA hb
  refine x_callI (pc := 4) (As := []) (rest := [.ref r2]) (mc' := p5.2.1) (ms' := p5.2.2) (dK D_LP_eviction_0 2 rfl) Q_LP_20 (fitK rfl) rfl (leK rfl) hk1 hn1 (tg_AL_init  e_p5) (kxU ?_)
  refine x_astoren (pc := 7) (i0 := 3) (ls2 := [(3, .ref r2), (0, .ref c0), (1, .ref c1), (2, V a2)]) (dK D_LP_eviction_0 3 rfl) rfl (ltK rfl) rfl ?_
  refine x_aloadn (pc := 8) (i0 := 0) (j := 1) (dK D_LP_eviction_0 4 rfl) rfl rfl ?_
  refine bnE h ?_
  clear h
  intro v6 e_v6 h
  refine wx_getV (pc := 9) (ci := 12) (f := 4) e_v6 (dK D_LP_eviction_0 5 rfl) q_775 (ltK rfl) (ltK rfl) (fun hv6 => ?_)
  refine rfE h ?_
  clear h
  intro r7 e_r7 h
  rw [e_r7]
  refine gdE h ?_
  clear h
  intro hk9 h
  refine bnE h ?_
  clear h
  intro p8 e_p8 h
  obtain ⟨yp8, h9, e9⟩ := adE2 h
  clear h
  subst e9
  have h := h9
  clear h9
  have hk1 := bd1 hb
  have hn1 := bd2 hb
  replace hb := bdA hb
  refine x_callX (pc := 12) (As := []) (rest := []) (mc' := p8.2.1) (ms' := p8.2.2) (dK D_LP_eviction_0 6 rfl) Q_LP_49 sx_AL_iterator (fitK rfl) (isK_at (Z := (p5.1.1, p5.1.2)) (ci := 13) hk9) rfl (leK rfl) hk1 hn1 (tg_AL_iterator  e_p8) (kxR (fun h_p8 => ?_))
  refine x_astoreV (pc := 15) (ls2 := [(4, p8.1.1), (3, .ref r2), (0, .ref c0), (1, .ref c1), (2, V a2)]) h_p8 (dK D_LP_eviction_0 7 rfl) (ltK rfl) rfl ?_
  refine rfE h ?_
  clear h
  intro r10 e_r10 h
  rw [e_r10]
  refine bnE h ?_
  clear h
  intro p32 e_p32 h
  obtain ⟨yp32, h9, e9⟩ := adE2 h
  clear h
  subst e9
  have h := h9
  clear h9
  have hk1 := bd1 hb
  have hn1 := bd2 hb
  replace hb := bdA hb
  refine x_weak (ls' := [(0, .ref c0), (1, .ref c1), (2, V a2), (3, .ref r2), (4, .ref r10)]) (sbc 2 rfl (sbc 3 rfl (sbc 4 rfl (sbc 1 rfl (sbc 0 rfl sbn))))) ?_
  refine tl2_LP_eviction_17 ha2 hk1 hn1 FU _ _ e_p32 _ _ ⟨Nat.le_refl _, Nat.le_refl _⟩  ?_
  refine wx_iconst (pc := 88) (dK D_LP_eviction_0 39 rfl) ?_
  refine x_istore (pc := 89) (ls2 := [(4, V (-1)), (0, .ref c0), (1, .ref c1), (2, V a2), (3, .ref r2)]) (dK D_LP_eviction_0 40 rfl) (ltK rfl) rfl ?_
  refine wx_iconst (pc := 91) (dK D_LP_eviction_0 41 rfl) ?_
  refine x_istore (pc := 92) (ls2 := [(5, V 0), (4, V (-1)), (0, .ref c0), (1, .ref c1), (2, V a2), (3, .ref r2)]) (dK D_LP_eviction_0 42 rfl) (ltK rfl) rfl ?_
  refine bnE h ?_
  clear h
  intro p93 e_p93 h
  obtain ⟨yp93, h9, e9⟩ := adE2 h
  clear h
  subst e9
  have h := h9
  clear h9
  have hk1 := bd1 hb
  have hn1 := bd2 hb
  replace hb := bdA hb
  refine x_weak (ls' := [(0, .ref c0), (1, .ref c1), (2, V a2), (3, .ref r2), (4, V (-1)), (5, V 0)]) (sbc 2 rfl (sbc 3 rfl (sbc 4 rfl (sbc 5 rfl (sbc 1 rfl (sbc 0 rfl sbn)))))) ?_
  refine tl2_LP_eviction_94 ha2 hk1 hn1 FU _ _ e_p93 _ _ ⟨Nat.le_refl _, Nat.le_refl _⟩ (inRk rfl) (inRk rfl) (fun hx4_p93 => ?_)
  refine x_iload (pc := 258) (j := 0) (dK D_LP_eviction_2 22 rfl) rfl ?_
  obtain rfl := Option.some.inj h
  exact wk_iretI (pc := 260) (dK D_LP_eviction_2 23 rfl) rfl (bdk hb) (bdn hb) ⟨rfl, hx4_p93, rfl⟩
theorem tg_LP_eviction {sc : SC} {c0 : Nat} {c1 : Nat} {a2 : Int} (ha2 : inR a2) {S : St} {L : List PC} {q : (Int × LZ) × Nat × Nat} (h : gn_LP_eviction c0 c1 a2 S L = some q) : EvX sc M_LP_eviction [.ref c0, .ref c1, V a2] (wz (S, L)) q.2.1 q.2.2 (KXI q.1.1 q.1.2) := EvX.of pn2_LP rfl (leK rfl) (te_LP_eviction ha2 h ⟨Nat.le_of_eq (Nat.zero_add _), Nat.le_of_eq (Nat.zero_add _)⟩)
def jf2_Law_evictions_112_33 (c1 : Nat) (a3 : Int) (a7 : Int) (go : Int × Int × Int × Int × LZ → Option (((Bool × LZ) ⊕ (Int × Int × LZ)) × Nat × Nat)) (a4 : Int) (a5 : Int) (a6 : Int) (a8 : Int) (a9 : Int) (S : St) (L : List PC) : Option (((Bool × LZ) ⊕ (Int × Int × LZ)) × Nat × Nat) := if a9 < 0 then (nm (wr (a8 + 1)) fun v20 => go (a4, a5, a6, v20, (S, L))) else (if a5 < 0 then (nm (wr (a8 + 1)) fun v21 => go (a8, a9, a6, v21, (S, L))) else (if a9 < a5 then (nm (wr (a8 + 1)) fun v22 => go (a8, a9, a6, v22, (S, L))) else (nm (wr (a8 + 1)) fun v23 => go (a4, a5, a6, v23, (S, L)))))
theorem tj2_Law_evictions_112_33 {sc : SC} {c1 : Nat} {a3 : Int} (ha3 : inR a3) {a7 : Int} (ha7 : inR a7) {K : Option Value → List PC → Prop} {mc ms kt nt : Nat} (hkt : kt ≤ mc) (hnt : nt ≤ ms) {go : Int × Int × Int × Int × LZ → Option (((Bool × LZ) ⊕ (Int × Int × LZ)) × Nat × Nat)} (ih : ∀ (a : Int × Int × Int × Int × LZ) (q : ((Bool × LZ) ⊕ (Int × Int × LZ)) × Nat × Nat), go a = some q → ∀ k n, Bd k n kt nt q → inR a.1 → inR a.2.1 → inR a.2.2.1 → inR a.2.2.2.1 → (∀ e, q.1 = .inr e → inR e.1 → inR e.2.1 → GX sc M_Law_evictions mc ms 150 [(0, .ref 0), (3, V a3), (4, V e.1), (6, V e.2.1), (7, V a7)] [] (wz e.2.2) kt nt K) → (∀ r, q.1 = .inl r → K (some (V (bi r.1))) (wz r.2)) → GX sc M_Law_evictions mc ms 33 [(0, .ref 0), (1, .ref c1), (3, V a3), (4, V a.1), (5, V a.2.1), (6, V a.2.2.1), (7, V a7), (8, V a.2.2.2.1)] [] (wz a.2.2.2.2) k n K) {a4 : Int} (ha4 : inR a4) {a5 : Int} (ha5 : inR a5) {a6 : Int} (ha6 : inR a6) {a8 : Int} (ha8 : inR a8) {a9 : Int} (ha9 : inR a9) {S : St} {L : List PC} {q : ((Bool × LZ) ⊕ (Int × Int × LZ)) × Nat × Nat} (h : jf2_Law_evictions_112_33 c1 a3 a7 go a4 a5 a6 a8 a9 S L = some q) {k n : Nat} (hb : Bd k n kt nt q) (hx : (∀ e, q.1 = .inr e → inR e.1 → inR e.2.1 → GX sc M_Law_evictions mc ms 150 [(0, .ref 0), (3, V a3), (4, V e.1), (6, V e.2.1), (7, V a7)] [] (wz e.2.2) kt nt K)) (hr : (∀ r, q.1 = .inl r → K (some (V (bi r.1))) (wz r.2))) : GX sc M_Law_evictions mc ms 112 [(0, .ref 0), (1, .ref c1), (3, V a3), (4, V a4), (5, V a5), (6, V a6), (7, V a7), (8, V a8), (9, V a9)] [] (wz (S, L)) k n K := by
  unfold jf2_Law_evictions_112_33 at h
  refine x_iload (pc := 112) (j := 5) (dK D_Law_evictions_1 9 rfl) rfl ?_
  refine x_istore (pc := 114) (ls2 := [(6, V a6), (0, .ref 0), (1, .ref c1), (3, V a3), (4, V a4), (5, V a5), (7, V a7), (8, V a8), (9, V a9)]) (dK D_Law_evictions_1 10 rfl) (ltK rfl) rfl ?_
  refine x_iload (pc := 116) (j := 8) (dK D_Law_evictions_1 11 rfl) rfl ?_
  refine wx_if_lt (pc := 118) (t := 144) (dK D_Law_evictions_1 12 rfl) rfl ha9 (fun hc26 => ?_) (fun hc26 => ?_)
  · replace h := ifP h hc26
    refine nmE h ?_
    clear h
    intro v20 e_v20 h
    refine wx_iinc (pc := 144) (j := 7) (a := a8) (z := 1) (ls2 := [(8, V v20), (6, V a6), (0, .ref 0), (1, .ref c1), (3, V a3), (4, V a4), (5, V a5), (7, V a7), (9, V a9)]) (dK D_Law_evictions_1 23 rfl) rfl e_v20 (ltK rfl) rfl ?_
    refine x_goto (pc := 147) (tgt := 33) (dK D_Law_evictions_1 24 rfl) rfl ?_
    refine x_weak (ls' := [(0, .ref 0), (1, .ref c1), (3, V a3), (4, V a4), (5, V a5), (6, V a6), (7, V a7), (8, V v20)]) (sbc 2 rfl (sbc 3 rfl (sbc 4 rfl (sbc 5 rfl (sbc 6 rfl (sbc 1 rfl (sbc 7 rfl (sbc 0 rfl sbn)))))))) ?_
    replace h := ih _ _ h
    exact h _ _ hb ha4 ha5 ha6 (Vn_in e_v20) hx hr
  · replace h := ifN h hc26
    refine x_iload (pc := 121) (j := 5) (dK D_Law_evictions_1 13 rfl) rfl ?_
    refine wx_if_lt (pc := 123) (t := 136) (dK D_Law_evictions_1 14 rfl) rfl ha5 (fun hc25 => ?_) (fun hc25 => ?_)
    · replace h := ifP h hc25
      refine x_iload (pc := 136) (j := 7) (dK D_Law_evictions_1 19 rfl) rfl ?_
      refine x_istore (pc := 138) (ls2 := [(4, V a8), (6, V a6), (0, .ref 0), (1, .ref c1), (3, V a3), (5, V a5), (7, V a7), (8, V a8), (9, V a9)]) (dK D_Law_evictions_1 20 rfl) (ltK rfl) rfl ?_
      refine x_iload (pc := 140) (j := 8) (dK D_Law_evictions_1 21 rfl) rfl ?_
      refine x_istore (pc := 142) (ls2 := [(5, V a9), (4, V a8), (6, V a6), (0, .ref 0), (1, .ref c1), (3, V a3), (7, V a7), (8, V a8), (9, V a9)]) (dK D_Law_evictions_1 22 rfl) (ltK rfl) rfl ?_
      refine nmE h ?_
      clear h
      intro v21 e_v21 h
      refine wx_iinc (pc := 144) (j := 7) (a := a8) (z := 1) (ls2 := [(8, V v21), (5, V a9), (4, V a8), (6, V a6), (0, .ref 0), (1, .ref c1), (3, V a3), (7, V a7), (9, V a9)]) (dK D_Law_evictions_1 23 rfl) rfl e_v21 (ltK rfl) rfl ?_
      refine x_goto (pc := 147) (tgt := 33) (dK D_Law_evictions_1 24 rfl) rfl ?_
      refine x_weak (ls' := [(0, .ref 0), (1, .ref c1), (3, V a3), (4, V a8), (5, V a9), (6, V a6), (7, V a7), (8, V v21)]) (sbc 4 rfl (sbc 5 rfl (sbc 6 rfl (sbc 2 rfl (sbc 1 rfl (sbc 3 rfl (sbc 7 rfl (sbc 0 rfl sbn)))))))) ?_
      replace h := ih _ _ h
      exact h _ _ hb ha8 ha9 ha6 (Vn_in e_v21) hx hr
    · replace h := ifN h hc25
      refine x_iload (pc := 126) (j := 8) (dK D_Law_evictions_1 15 rfl) rfl ?_
      refine x_iload (pc := 128) (j := 5) (dK D_Law_evictions_1 16 rfl) rfl ?_
      refine wx_icmp_lt (pc := 130) (t := 136) (dK D_Law_evictions_1 17 rfl) rfl ha9 ha5 (fun hc24 => ?_) (fun hc24 => ?_)
      · replace h := ifP h hc24
        refine x_iload (pc := 136) (j := 7) (dK D_Law_evictions_1 19 rfl) rfl ?_
        refine x_istore (pc := 138) (ls2 := [(4, V a8), (6, V a6), (0, .ref 0), (1, .ref c1), (3, V a3), (5, V a5), (7, V a7), (8, V a8), (9, V a9)]) (dK D_Law_evictions_1 20 rfl) (ltK rfl) rfl ?_
        refine x_iload (pc := 140) (j := 8) (dK D_Law_evictions_1 21 rfl) rfl ?_
        refine x_istore (pc := 142) (ls2 := [(5, V a9), (4, V a8), (6, V a6), (0, .ref 0), (1, .ref c1), (3, V a3), (7, V a7), (8, V a8), (9, V a9)]) (dK D_Law_evictions_1 22 rfl) (ltK rfl) rfl ?_
        refine nmE h ?_
        clear h
        intro v22 e_v22 h
        refine wx_iinc (pc := 144) (j := 7) (a := a8) (z := 1) (ls2 := [(8, V v22), (5, V a9), (4, V a8), (6, V a6), (0, .ref 0), (1, .ref c1), (3, V a3), (7, V a7), (9, V a9)]) (dK D_Law_evictions_1 23 rfl) rfl e_v22 (ltK rfl) rfl ?_
        refine x_goto (pc := 147) (tgt := 33) (dK D_Law_evictions_1 24 rfl) rfl ?_
        refine x_weak (ls' := [(0, .ref 0), (1, .ref c1), (3, V a3), (4, V a8), (5, V a9), (6, V a6), (7, V a7), (8, V v22)]) (sbc 4 rfl (sbc 5 rfl (sbc 6 rfl (sbc 2 rfl (sbc 1 rfl (sbc 3 rfl (sbc 7 rfl (sbc 0 rfl sbn)))))))) ?_
        replace h := ih _ _ h
        exact h _ _ hb ha8 ha9 ha6 (Vn_in e_v22) hx hr
      · replace h := ifN h hc24
        refine x_goto (pc := 133) (tgt := 144) (dK D_Law_evictions_1 18 rfl) rfl ?_
        refine nmE h ?_
        clear h
        intro v23 e_v23 h
        refine wx_iinc (pc := 144) (j := 7) (a := a8) (z := 1) (ls2 := [(8, V v23), (6, V a6), (0, .ref 0), (1, .ref c1), (3, V a3), (4, V a4), (5, V a5), (7, V a7), (9, V a9)]) (dK D_Law_evictions_1 23 rfl) rfl e_v23 (ltK rfl) rfl ?_
        refine x_goto (pc := 147) (tgt := 33) (dK D_Law_evictions_1 24 rfl) rfl ?_
        refine x_weak (ls' := [(0, .ref 0), (1, .ref c1), (3, V a3), (4, V a4), (5, V a5), (6, V a6), (7, V a7), (8, V v23)]) (sbc 2 rfl (sbc 3 rfl (sbc 4 rfl (sbc 5 rfl (sbc 6 rfl (sbc 1 rfl (sbc 7 rfl (sbc 0 rfl sbn)))))))) ?_
        replace h := ih _ _ h
        exact h _ _ hb ha4 ha5 ha6 (Vn_in e_v23) hx hr
def lb2_Law_evictions_33 (c1 : Nat) (a3 : Int) (a7 : Int) (go : Int × Int × Int × Int × LZ → Option (((Bool × LZ) ⊕ (Int × Int × LZ)) × Nat × Nat)) (a4 : Int) (a5 : Int) (a6 : Int) (a8 : Int) (S : St) (L : List PC) : Option (((Bool × LZ) ⊕ (Int × Int × LZ)) × Nat × Nat) := if isK L c1 12 = true then (bnO (gn_LP_pages c1 S L) fun p9 => if p9 < a8 then (some (.inr (a4, a6, (S, L)), 0, 0)) else (bnO (gfV L c1 12 4) fun v11 => rfB v11 fun r12 => if isK L r12 13 = true then (bnO (gn_AL_get r12 a3 S L) fun p13 => rfB p13 fun r15 => if isK L r15 11 = true then (if isK L c1 12 = true then (bnO (gn_LP_eviction c1 r15 a8 S L) fun p17 => adC p17.2.1 p17.2.2 (bnO (fn_FP_eviction 0 a3 a8 p17.1.2.1) fun p19 => if p19.1 = 0 then (adC 2 12 (if p19.2.1 = p17.1.1 then (if 0 ≤ a6 then (jf2_Law_evictions_112_33 c1 a3 a7 go a4 a5 a6 a8 p17.1.1 p19.2.2 p17.1.2.2) else (if a8 < a7 then (jf2_Law_evictions_112_33 c1 a3 a7 go a4 a5 a6 a8 p17.1.1 p19.2.2 p17.1.2.2) else (bnO (gfV p17.1.2.2 c1 12 4) fun v27 => rfB v27 fun r28 => if isK p17.1.2.2 r28 13 = true then (bnO (gn_AL_get r28 a3 p19.2.2 p17.1.2.2) fun p29 => rfB p29 fun r31 => if isK p17.1.2.2 r31 11 = true then (if isK p17.1.2.2 c1 12 = true then (bnO (gn_LP_reason c1 r31 a8 p19.2.2 p17.1.2.2) fun p33 => adC p33.2.1 p33.2.2 (if p33.1.1 = 0 then (if p17.1.1 < 0 then (nm (wr (a8 + 1)) fun v35 => go (a4, a5, a8, v35, (p33.1.2.1, p33.1.2.2))) else (if a5 < 0 then (nm (wr (a8 + 1)) fun v36 => go (a8, p17.1.1, a8, v36, (p33.1.2.1, p33.1.2.2))) else (if p17.1.1 < a5 then (nm (wr (a8 + 1)) fun v37 => go (a8, p17.1.1, a8, v37, (p33.1.2.1, p33.1.2.2))) else (nm (wr (a8 + 1)) fun v38 => go (a4, a5, a8, v38, (p33.1.2.1, p33.1.2.2)))))) else (jf2_Law_evictions_112_33 c1 a3 a7 go a4 a5 a6 a8 p17.1.1 p33.1.2.1 p33.1.2.2))) else none) else none) else none))) else (some (.inl (false, (p19.2.2, p17.1.2.2)), 0, 0)))) else none)) else none) else none) else none)) else none
def lo2_Law_evictions_33 (c1 : Nat) (a3 : Int) (a7 : Int) : Nat → Int × Int × Int × Int × LZ → Option (((Bool × LZ) ⊕ (Int × Int × LZ)) × Nat × Nat) := lp fun go p => lb2_Law_evictions_33 c1 a3 a7 go p.1 p.2.1 p.2.2.1 p.2.2.2.1 p.2.2.2.2.1 p.2.2.2.2.2
theorem tl2_Law_evictions_33 {sc : SC} {c1 : Nat} {a3 : Int} (ha3 : inR a3) {a7 : Int} (ha7 : inR a7) {K : Option Value → List PC → Prop} {mc ms kt nt : Nat} (hkt : kt ≤ mc) (hnt : nt ≤ ms) : ∀ (N : Nat) (a : Int × Int × Int × Int × LZ) (q : ((Bool × LZ) ⊕ (Int × Int × LZ)) × Nat × Nat), lo2_Law_evictions_33 c1 a3 a7 N a = some q → ∀ k n, Bd k n kt nt q → inR a.1 → inR a.2.1 → inR a.2.2.1 → inR a.2.2.2.1 → (∀ e, q.1 = .inr e → inR e.1 → inR e.2.1 → GX sc M_Law_evictions mc ms 150 [(0, .ref 0), (3, V a3), (4, V e.1), (6, V e.2.1), (7, V a7)] [] (wz e.2.2) kt nt K) → (∀ r, q.1 = .inl r → K (some (V (bi r.1))) (wz r.2)) → GX sc M_Law_evictions mc ms 33 [(0, .ref 0), (1, .ref c1), (3, V a3), (4, V a.1), (5, V a.2.1), (6, V a.2.2.1), (7, V a7), (8, V a.2.2.2.1)] [] (wz a.2.2.2.2) k n K := by
  refine lp_ind2 (P := fun (a : Int × Int × Int × Int × LZ) (q : ((Bool × LZ) ⊕ (Int × Int × LZ)) × Nat × Nat) => ∀ k n, Bd k n kt nt q → inR a.1 → inR a.2.1 → inR a.2.2.1 → inR a.2.2.2.1 → (∀ e, q.1 = .inr e → inR e.1 → inR e.2.1 → GX sc M_Law_evictions mc ms 150 [(0, .ref 0), (3, V a3), (4, V e.1), (6, V e.2.1), (7, V a7)] [] (wz e.2.2) kt nt K) → (∀ r, q.1 = .inl r → K (some (V (bi r.1))) (wz r.2)) → GX sc M_Law_evictions mc ms 33 [(0, .ref 0), (1, .ref c1), (3, V a3), (4, V a.1), (5, V a.2.1), (6, V a.2.2.1), (7, V a7), (8, V a.2.2.2.1)] [] (wz a.2.2.2.2) k n K) (fun go ih a q h => ?_)
  obtain ⟨a4, a5, a6, a8, ⟨S, L⟩⟩ := a
  intro k n hb ha4 ha5 ha6 ha8 hx hr
  show GX sc M_Law_evictions mc ms 33 [(0, .ref 0), (1, .ref c1), (3, V a3), (4, V a4), (5, V a5), (6, V a6), (7, V a7), (8, V a8)] [] (wz (S, L)) k n K
  replace h : lb2_Law_evictions_33 c1 a3 a7 go a4 a5 a6 a8 S L = some q := h
  unfold lb2_Law_evictions_33 at h
  refine x_iload (pc := 33) (j := 7) (dK D_Law_evictions_0 22 rfl) rfl ?_
  refine x_aloadn (pc := 35) (i0 := 1) (j := 1) (dK D_Law_evictions_0 23 rfl) rfl rfl ?_
  refine gdE h ?_
  clear h
  intro hk10 h
  refine bnE h ?_
  clear h
  intro p9 e_p9 h
  refine x_callX (pc := 36) (As := []) (rest := [V a8]) (mc' := 0) (ms' := 0) (dK D_Law_evictions_0 24 rfl) Q_Law_42 sx_LP_pages (fitK rfl) (isK_at (Z := (S, L)) (ci := 12) hk10) rfl (leK rfl) (Nat.le_trans (bdk hb) hkt) (Nat.le_trans (bdn hb) hnt) (tg_LP_pages  e_p9) (kxI' (fun h_p9 => ?_))
  refine wx_icmp_gt (pc := 39) (t := 150) (dK D_Law_evictions_0 25 rfl) rfl ha8 h_p9 (fun hc46 => ?_) (fun hc46 => ?_)
  · replace h := ifP h hc46
    obtain rfl := Option.some.inj h
    refine x_weak (ls' := [(0, .ref 0), (3, V a3), (4, V a4), (6, V a6), (7, V a7)]) (sbc 0 rfl (sbc 2 rfl (sbc 3 rfl (sbc 5 rfl (sbc 6 rfl sbn))))) ?_
    refine x_room (bdk hb) (bdn hb) ?_
    exact hx (a4, a6, (S, L)) rfl ha4 ha6
  · replace h := ifN h hc46
    refine x_aloadn (pc := 42) (i0 := 1) (j := 1) (dK D_Law_evictions_0 26 rfl) rfl rfl ?_
    refine x_aloadn (pc := 43) (i0 := 1) (j := 1) (dK D_Law_evictions_0 27 rfl) rfl rfl ?_
    refine bnE h ?_
    clear h
    intro v11 e_v11 h
    refine wx_getV (pc := 44) (ci := 12) (f := 4) e_v11 (dK D_Law_evictions_0 28 rfl) q_776 (ltK rfl) (ltK rfl) (fun hv11 => ?_)
    refine x_iloadn (pc := 47) (i0 := 3) (j := 2) (dK D_Law_evictions_0 29 rfl) rfl rfl ?_
    refine rfE h ?_
    clear h
    intro r12 e_r12 h
    rw [e_r12]
    refine gdE h ?_
    clear h
    intro hk14 h
    refine bnE h ?_
    clear h
    intro p13 e_p13 h
    refine x_callX (pc := 48) (As := [V a3]) (rest := [.ref c1]) (mc' := 0) (ms' := 0) (dK D_Law_evictions_0 30 rfl) Q_Law_69 sx_AL_get (fitK rfl) (isK_at (Z := (S, L)) (ci := 13) hk14) rfl (leK rfl) (Nat.le_trans (bdk hb) hkt) (Nat.le_trans (bdn hb) hnt) (tg_AL_get ha3 e_p13) (kxR (fun h_p13 => ?_))
    refine rfE h ?_
    clear h
    intro r15 e_r15 h
    rw [e_r15]
    refine gdE h ?_
    clear h
    intro hk16 h
    refine x_cast (pc := 51) (dK D_Law_evictions_0 31 rfl) q_1033 (isK_at (Z := (S, L)) (ci := 11) hk16) ?_
    refine x_iload (pc := 54) (j := 7) (dK D_Law_evictions_0 32 rfl) rfl ?_
    refine gdE h ?_
    clear h
    intro hk18 h
    refine bnE h ?_
    clear h
    intro p17 e_p17 h
    obtain ⟨yp17, h9, e9⟩ := adE2 h
    clear h
    subst e9
    have h := h9
    clear h9
    have hk1 := Nat.le_trans (bd1 hb) hkt
    have hn1 := Nat.le_trans (bd2 hb) hnt
    replace hb := bdA hb
    refine x_callX (pc := 56) (As := [.ref r15, V a8]) (rest := []) (mc' := p17.2.1) (ms' := p17.2.2) (dK D_Law_evictions_0 33 rfl) Q_Law_292 sx_LP_eviction (fitK rfl) (isK_at (Z := (S, L)) (ci := 12) hk18) rfl (leK rfl) hk1 hn1 (tg_LP_eviction ha8 e_p17) (kxI' (fun h_p17 => ?_))
    refine x_istore (pc := 59) (ls2 := [(9, V p17.1.1), (0, .ref 0), (1, .ref c1), (3, V a3), (4, V a4), (5, V a5), (6, V a6), (7, V a7), (8, V a8)]) (dK D_Law_evictions_0 34 rfl) (ltK rfl) rfl ?_
    refine x_aloadn (pc := 61) (i0 := 0) (j := 1) (dK D_Law_evictions_0 35 rfl) rfl rfl ?_
    refine x_iloadn (pc := 62) (i0 := 3) (j := 3) (dK D_Law_evictions_0 36 rfl) rfl rfl ?_
    refine x_iload (pc := 63) (j := 8) (dK D_Law_evictions_0 37 rfl) rfl ?_
    refine bnE h ?_
    clear h
    intro p19 e_p19 h
    refine gdE h ?_
    clear h
    intro hz_p19 h
    obtain ⟨yp19, h9, e9⟩ := adE2 h
    clear h
    subst e9
    have h := h9
    clear h9
    have hk1 := Nat.le_trans (bd1 hb) hkt
    have hn1 := Nat.le_trans (bd2 hb) hnt
    replace hb := bdA hb
    refine x_callX (pc := 65) (As := [V a3, V a8]) (rest := []) (mc' := 2) (ms' := 12) (dK D_Law_evictions_0 38 rfl) Q_Law_295 sx_FP_eviction (fitK rfl) (isK_at (Z := (p17.1.2.1, p17.1.2.2)) (ci := 10) isK0) rfl (leK rfl) hk1 hn1 (clTI hz_p19 (fun E => tf_FP_eviction (X := xz p17.1.2.2) rfl xz_hc ha3 ha8 e_p19)) (kxI' (fun h_p19 => ?_))
    refine x_iload (pc := 68) (j := 0) (dK D_Law_evictions_0 39 rfl) rfl ?_
    refine wx_icmp_eq (pc := 70) (t := 75) (dK D_Law_evictions_0 40 rfl) rfl h_p19 h_p17 (fun hc45 => ?_) (fun hc45 => ?_)
    · replace h := ifP h hc45
      refine x_iload (pc := 75) (j := 6) (dK D_Law_evictions_0 43 rfl) rfl ?_
      refine wx_if_ge (pc := 77) (t := 112) (dK D_Law_evictions_0 44 rfl) rfl ha6 (fun hc44 => ?_) (fun hc44 => ?_)
      · replace h := ifP h hc44
        refine x_weak (ls' := [(0, .ref 0), (1, .ref c1), (3, V a3), (4, V a4), (5, V a5), (6, V a6), (7, V a7), (8, V a8), (9, V p17.1.1)]) (sbc 1 rfl (sbc 2 rfl (sbc 3 rfl (sbc 4 rfl (sbc 5 rfl (sbc 6 rfl (sbc 7 rfl (sbc 8 rfl (sbc 0 rfl sbn))))))))) ?_
        exact tj2_Law_evictions_112_33 ha3 ha7 hkt hnt ih ha4 ha5 ha6 ha8 h_p17 h hb hx hr
      · replace h := ifN h hc44
        refine x_iload (pc := 80) (j := 8) (dK D_Law_evictions_0 45 rfl) rfl ?_
        refine x_iload (pc := 82) (j := 7) (dK D_Law_evictions_0 46 rfl) rfl ?_
        refine wx_icmp_lt (pc := 84) (t := 112) (dK D_Law_evictions_0 47 rfl) rfl ha8 ha7 (fun hc43 => ?_) (fun hc43 => ?_)
        · replace h := ifP h hc43
          refine x_weak (ls' := [(0, .ref 0), (1, .ref c1), (3, V a3), (4, V a4), (5, V a5), (6, V a6), (7, V a7), (8, V a8), (9, V p17.1.1)]) (sbc 1 rfl (sbc 2 rfl (sbc 3 rfl (sbc 4 rfl (sbc 5 rfl (sbc 6 rfl (sbc 7 rfl (sbc 8 rfl (sbc 0 rfl sbn))))))))) ?_
          exact tj2_Law_evictions_112_33 ha3 ha7 hkt hnt ih ha4 ha5 ha6 ha8 h_p17 h hb hx hr
        · replace h := ifN h hc43
          refine x_aloadn (pc := 87) (i0 := 1) (j := 2) (dK D_Law_evictions_0 48 rfl) rfl rfl ?_
          refine x_aloadn (pc := 88) (i0 := 1) (j := 2) (dK D_Law_evictions_0 49 rfl) rfl rfl ?_
          refine bnE h ?_
          clear h
          intro v27 e_v27 h
          refine wx_getV (pc := 89) (ci := 12) (f := 4) e_v27 (dK D_Law_evictions_1 0 rfl) q_776 (ltK rfl) (ltK rfl) (fun hv27 => ?_)
          refine x_iloadn (pc := 92) (i0 := 3) (j := 3) (dK D_Law_evictions_1 1 rfl) rfl rfl ?_
          refine rfE h ?_
          clear h
          intro r28 e_r28 h
          rw [e_r28]
          refine gdE h ?_
          clear h
          intro hk30 h
          refine bnE h ?_
          clear h
          intro p29 e_p29 h
          refine x_callX (pc := 93) (As := [V a3]) (rest := [.ref c1]) (mc' := 0) (ms' := 0) (dK D_Law_evictions_1 2 rfl) Q_Law_69 sx_AL_get (fitK rfl) (isK_at (Z := (p19.2.2, p17.1.2.2)) (ci := 13) hk30) rfl (leK rfl) (Nat.le_trans (bdk hb) hkt) (Nat.le_trans (bdn hb) hnt) (tg_AL_get ha3 e_p29) (kxR (fun h_p29 => ?_))
          refine rfE h ?_
          clear h
          intro r31 e_r31 h
          rw [e_r31]
          refine gdE h ?_
          clear h
          intro hk32 h
          refine x_cast (pc := 96) (dK D_Law_evictions_1 3 rfl) q_1033 (isK_at (Z := (p19.2.2, p17.1.2.2)) (ci := 11) hk32) ?_
          refine x_iload (pc := 99) (j := 8) (dK D_Law_evictions_1 4 rfl) rfl ?_
          refine gdE h ?_
          clear h
          intro hk34 h
          refine bnE h ?_
          clear h
          intro p33 e_p33 h
          obtain ⟨yp33, h9, e9⟩ := adE2 h
          clear h
          subst e9
          have h := h9
          clear h9
          have hk1 := Nat.le_trans (bd1 hb) hkt
          have hn1 := Nat.le_trans (bd2 hb) hnt
          replace hb := bdA hb
          refine x_callX (pc := 101) (As := [.ref r31, V a8]) (rest := []) (mc' := p33.2.1) (ms' := p33.2.2) (dK D_Law_evictions_1 5 rfl) Q_Law_261 sx_LP_reason (fitK rfl) (isK_at (Z := (p19.2.2, p17.1.2.2)) (ci := 12) hk34) rfl (leK rfl) hk1 hn1 (tg_LP_reason ha8 e_p33) (kxI' (fun h_p33 => ?_))
          refine wx_if_ne (pc := 104) (t := 112) (dK D_Law_evictions_1 6 rfl) rfl h_p33 (fun hc42 => ?_) (fun hc42 => ?_)
          · replace h := ifN h hc42
            refine x_weak (ls' := [(0, .ref 0), (1, .ref c1), (3, V a3), (4, V a4), (5, V a5), (6, V a6), (7, V a7), (8, V a8), (9, V p17.1.1)]) (sbc 1 rfl (sbc 2 rfl (sbc 3 rfl (sbc 4 rfl (sbc 5 rfl (sbc 6 rfl (sbc 7 rfl (sbc 8 rfl (sbc 0 rfl sbn))))))))) ?_
            exact tj2_Law_evictions_112_33 ha3 ha7 hkt hnt ih ha4 ha5 ha6 ha8 h_p17 h hb hx hr
          · replace h := ifP h hc42
            refine x_iload (pc := 107) (j := 8) (dK D_Law_evictions_1 7 rfl) rfl ?_
            refine x_goto (pc := 109) (tgt := 114) (dK D_Law_evictions_1 8 rfl) rfl ?_
            refine x_istore (pc := 114) (ls2 := [(6, V a8), (9, V p17.1.1), (0, .ref 0), (1, .ref c1), (3, V a3), (4, V a4), (5, V a5), (7, V a7), (8, V a8)]) (dK D_Law_evictions_1 10 rfl) (ltK rfl) rfl ?_
            refine x_iload (pc := 116) (j := 1) (dK D_Law_evictions_1 11 rfl) rfl ?_
            refine wx_if_lt (pc := 118) (t := 144) (dK D_Law_evictions_1 12 rfl) rfl h_p17 (fun hc41 => ?_) (fun hc41 => ?_)
            · replace h := ifP h hc41
              refine nmE h ?_
              clear h
              intro v35 e_v35 h
              refine wx_iinc (pc := 144) (j := 8) (a := a8) (z := 1) (ls2 := [(8, V v35), (6, V a8), (9, V p17.1.1), (0, .ref 0), (1, .ref c1), (3, V a3), (4, V a4), (5, V a5), (7, V a7)]) (dK D_Law_evictions_1 23 rfl) rfl e_v35 (ltK rfl) rfl ?_
              refine x_goto (pc := 147) (tgt := 33) (dK D_Law_evictions_1 24 rfl) rfl ?_
              refine x_weak (ls' := [(0, .ref 0), (1, .ref c1), (3, V a3), (4, V a4), (5, V a5), (6, V a8), (7, V a7), (8, V v35)]) (sbc 3 rfl (sbc 4 rfl (sbc 5 rfl (sbc 6 rfl (sbc 7 rfl (sbc 1 rfl (sbc 8 rfl (sbc 0 rfl sbn)))))))) ?_
              replace h := ih _ _ h
              exact h _ _ hb ha4 ha5 ha8 (Vn_in e_v35) hx hr
            · replace h := ifN h hc41
              refine x_iload (pc := 121) (j := 6) (dK D_Law_evictions_1 13 rfl) rfl ?_
              refine wx_if_lt (pc := 123) (t := 136) (dK D_Law_evictions_1 14 rfl) rfl ha5 (fun hc40 => ?_) (fun hc40 => ?_)
              · replace h := ifP h hc40
                refine x_iload (pc := 136) (j := 8) (dK D_Law_evictions_1 19 rfl) rfl ?_
                refine x_istore (pc := 138) (ls2 := [(4, V a8), (6, V a8), (9, V p17.1.1), (0, .ref 0), (1, .ref c1), (3, V a3), (5, V a5), (7, V a7), (8, V a8)]) (dK D_Law_evictions_1 20 rfl) (ltK rfl) rfl ?_
                refine x_iload (pc := 140) (j := 2) (dK D_Law_evictions_1 21 rfl) rfl ?_
                refine x_istore (pc := 142) (ls2 := [(5, V p17.1.1), (4, V a8), (6, V a8), (9, V p17.1.1), (0, .ref 0), (1, .ref c1), (3, V a3), (7, V a7), (8, V a8)]) (dK D_Law_evictions_1 22 rfl) (ltK rfl) rfl ?_
                refine nmE h ?_
                clear h
                intro v36 e_v36 h
                refine wx_iinc (pc := 144) (j := 8) (a := a8) (z := 1) (ls2 := [(8, V v36), (5, V p17.1.1), (4, V a8), (6, V a8), (9, V p17.1.1), (0, .ref 0), (1, .ref c1), (3, V a3), (7, V a7)]) (dK D_Law_evictions_1 23 rfl) rfl e_v36 (ltK rfl) rfl ?_
                refine x_goto (pc := 147) (tgt := 33) (dK D_Law_evictions_1 24 rfl) rfl ?_
                refine x_weak (ls' := [(0, .ref 0), (1, .ref c1), (3, V a3), (4, V a8), (5, V p17.1.1), (6, V a8), (7, V a7), (8, V v36)]) (sbc 5 rfl (sbc 6 rfl (sbc 7 rfl (sbc 2 rfl (sbc 1 rfl (sbc 3 rfl (sbc 8 rfl (sbc 0 rfl sbn)))))))) ?_
                replace h := ih _ _ h
                exact h _ _ hb ha8 h_p17 ha8 (Vn_in e_v36) hx hr
              · replace h := ifN h hc40
                refine x_iload (pc := 126) (j := 1) (dK D_Law_evictions_1 15 rfl) rfl ?_
                refine x_iload (pc := 128) (j := 6) (dK D_Law_evictions_1 16 rfl) rfl ?_
                refine wx_icmp_lt (pc := 130) (t := 136) (dK D_Law_evictions_1 17 rfl) rfl h_p17 ha5 (fun hc39 => ?_) (fun hc39 => ?_)
                · replace h := ifP h hc39
                  refine x_iload (pc := 136) (j := 8) (dK D_Law_evictions_1 19 rfl) rfl ?_
                  refine x_istore (pc := 138) (ls2 := [(4, V a8), (6, V a8), (9, V p17.1.1), (0, .ref 0), (1, .ref c1), (3, V a3), (5, V a5), (7, V a7), (8, V a8)]) (dK D_Law_evictions_1 20 rfl) (ltK rfl) rfl ?_
                  refine x_iload (pc := 140) (j := 2) (dK D_Law_evictions_1 21 rfl) rfl ?_
                  refine x_istore (pc := 142) (ls2 := [(5, V p17.1.1), (4, V a8), (6, V a8), (9, V p17.1.1), (0, .ref 0), (1, .ref c1), (3, V a3), (7, V a7), (8, V a8)]) (dK D_Law_evictions_1 22 rfl) (ltK rfl) rfl ?_
                  refine nmE h ?_
                  clear h
                  intro v37 e_v37 h
                  refine wx_iinc (pc := 144) (j := 8) (a := a8) (z := 1) (ls2 := [(8, V v37), (5, V p17.1.1), (4, V a8), (6, V a8), (9, V p17.1.1), (0, .ref 0), (1, .ref c1), (3, V a3), (7, V a7)]) (dK D_Law_evictions_1 23 rfl) rfl e_v37 (ltK rfl) rfl ?_
                  refine x_goto (pc := 147) (tgt := 33) (dK D_Law_evictions_1 24 rfl) rfl ?_
                  refine x_weak (ls' := [(0, .ref 0), (1, .ref c1), (3, V a3), (4, V a8), (5, V p17.1.1), (6, V a8), (7, V a7), (8, V v37)]) (sbc 5 rfl (sbc 6 rfl (sbc 7 rfl (sbc 2 rfl (sbc 1 rfl (sbc 3 rfl (sbc 8 rfl (sbc 0 rfl sbn)))))))) ?_
                  replace h := ih _ _ h
                  exact h _ _ hb ha8 h_p17 ha8 (Vn_in e_v37) hx hr
                · replace h := ifN h hc39
                  refine x_goto (pc := 133) (tgt := 144) (dK D_Law_evictions_1 18 rfl) rfl ?_
                  refine nmE h ?_
                  clear h
                  intro v38 e_v38 h
                  refine wx_iinc (pc := 144) (j := 8) (a := a8) (z := 1) (ls2 := [(8, V v38), (6, V a8), (9, V p17.1.1), (0, .ref 0), (1, .ref c1), (3, V a3), (4, V a4), (5, V a5), (7, V a7)]) (dK D_Law_evictions_1 23 rfl) rfl e_v38 (ltK rfl) rfl ?_
                  refine x_goto (pc := 147) (tgt := 33) (dK D_Law_evictions_1 24 rfl) rfl ?_
                  refine x_weak (ls' := [(0, .ref 0), (1, .ref c1), (3, V a3), (4, V a4), (5, V a5), (6, V a8), (7, V a7), (8, V v38)]) (sbc 3 rfl (sbc 4 rfl (sbc 5 rfl (sbc 6 rfl (sbc 7 rfl (sbc 1 rfl (sbc 8 rfl (sbc 0 rfl sbn)))))))) ?_
                  replace h := ih _ _ h
                  exact h _ _ hb ha4 ha5 ha8 (Vn_in e_v38) hx hr
    · replace h := ifN h hc45
      refine wx_iconst (pc := 73) (dK D_Law_evictions_0 41 rfl) ?_
      obtain rfl := Option.some.inj h
      exact wk_iretB (pc := 74) (b := false) (dK D_Law_evictions_0 42 rfl) rfl (Nat.le_trans (bdk hb) hkt) (Nat.le_trans (bdn hb) hnt) (hr (false, (p19.2.2, p17.1.2.2)) rfl)
def gn_Law_evictions (c1 : Nat) (a2 : Int) (S : St) (L : List PC) : Option ((Bool × LZ) × Nat × Nat) := bnO (gfV L c1 12 4) fun v1 => rfB v1 fun r2 => if isK L r2 13 = true then (bnO (gn_AL_size r2 S L) fun p3 => if 0 < p3 then (nm (wr (a2.tmod p3)) fun v6 => nm (wr (a2.tdiv 40)) fun v7 => nm (wr ((v7.tmod 70) - 2)) fun v8 => bnT (lo2_Law_evictions_33 c1 v6 v8 FU ((-1), (-1), (-1), 1, (S, L))) (fun r48 => some ((r48.1, (r48.2.1, r48.2.2)), 0, 0)) fun e49 => bnO (fn_FP_cheapestPage 0 v6 e49.2.2.1) fun p50 => if p50.1 = 0 then (adC 1 6 (if p50.2.1 = e49.1 then (bnO (fn_FP_firstPage 0 v6 v8 p50.2.2) fun p51 => if p51.1 = 0 then (adC 1 6 (if p51.2 = e49.2.1 then (some ((true, (p50.2.2, e49.2.2.2)), 0, 0)) else (some ((false, (p50.2.2, e49.2.2.2)), 0, 0)))) else none) else (some ((false, (p50.2.2, e49.2.2.2)), 0, 0)))) else none) else none) else none
theorem te_Law_evictions {sc : SC} {c1 : Nat} {a2 : Int} (ha2 : inR a2) {S : St} {L : List PC} {q : (Bool × LZ) × Nat × Nat} (h : gn_Law_evictions c1 a2 S L = some q) {mc ms k n : Nat} (hb : Bd k n mc ms q) : GX sc M_Law_evictions mc ms 0 [(0, .ref 0), (1, .ref c1), (2, V a2)] [] (wz (S, L)) k n (KXB q.1.1 q.1.2) := by
  unfold gn_Law_evictions at h
  refine x_iloadn (pc := 0) (i0 := 2) (j := 2) (dK D_Law_evictions_0 0 rfl) rfl rfl ?_
  refine x_aloadn (pc := 1) (i0 := 1) (j := 1) (dK D_Law_evictions_0 1 rfl) rfl rfl ?_
  refine bnE h ?_
  clear h
  intro v1 e_v1 h
  refine wx_getV (pc := 2) (ci := 12) (f := 4) e_v1 (dK D_Law_evictions_0 2 rfl) q_776 (ltK rfl) (ltK rfl) (fun hv1 => ?_)
  refine rfE h ?_
  clear h
  intro r2 e_r2 h
  rw [e_r2]
  refine gdE h ?_
  clear h
  intro hk4 h
  refine bnE h ?_
  clear h
  intro p3 e_p3 h
  refine x_callX (pc := 5) (As := []) (rest := [V a2]) (mc' := 0) (ms' := 0) (dK D_Law_evictions_0 3 rfl) Q_Law_55 sx_AL_size (fitK rfl) (isK_at (Z := (S, L)) (ci := 13) hk4) rfl (leK rfl) (bdk hb) (bdn hb) (tg_AL_size  e_p3) (kxI' (fun h_p3 => ?_))
  refine gdE h ?_
  clear h
  intro hp5 h
  refine wx_irem (pc := 8) (dK D_Law_evictions_0 4 rfl) ha2 h_p3 hp5 ?_
  refine nmE h ?_
  clear h
  intro v6 e_v6 h
  refine wtop e_v6 ?_
  refine x_istoren (pc := 9) (i0 := 3) (ls2 := [(3, V v6), (0, .ref 0), (1, .ref c1), (2, V a2)]) (dK D_Law_evictions_0 5 rfl) rfl (ltK rfl) rfl ?_
  refine wx_iconst (pc := 10) (dK D_Law_evictions_0 6 rfl) ?_
  refine x_istore (pc := 11) (ls2 := [(4, V (-1)), (3, V v6), (0, .ref 0), (1, .ref c1), (2, V a2)]) (dK D_Law_evictions_0 7 rfl) (ltK rfl) rfl ?_
  refine wx_iconst (pc := 13) (dK D_Law_evictions_0 8 rfl) ?_
  refine x_istore (pc := 14) (ls2 := [(5, V (-1)), (4, V (-1)), (3, V v6), (0, .ref 0), (1, .ref c1), (2, V a2)]) (dK D_Law_evictions_0 9 rfl) (ltK rfl) rfl ?_
  refine wx_iconst (pc := 16) (dK D_Law_evictions_0 10 rfl) ?_
  refine x_istore (pc := 17) (ls2 := [(6, V (-1)), (5, V (-1)), (4, V (-1)), (3, V v6), (0, .ref 0), (1, .ref c1), (2, V a2)]) (dK D_Law_evictions_0 11 rfl) (ltK rfl) rfl ?_
  refine x_iloadn (pc := 19) (i0 := 2) (j := 6) (dK D_Law_evictions_0 12 rfl) rfl rfl ?_
  refine wx_bipush (pc := 20) (dK D_Law_evictions_0 13 rfl) rfl ?_
  refine wx_idiv (pc := 22) (dK D_Law_evictions_0 14 rfl) ha2 (inRk rfl) (by decide) ?_
  refine wx_bipush (pc := 23) (dK D_Law_evictions_0 15 rfl) rfl ?_
  refine nmE h ?_
  clear h
  intro v7 e_v7 h
  refine wsk (st' := [V 70, V v7]) (congrArg (fun z9 => [V 70, z9]) (Vn e_v7)) ?_
  refine wx_irem (pc := 25) (dK D_Law_evictions_0 16 rfl) (Vn_in e_v7) (inRk rfl) (by decide) ?_
  refine wx_iconst (pc := 26) (dK D_Law_evictions_0 17 rfl) ?_
  refine wx_isub (pc := 27) (dK D_Law_evictions_0 18 rfl) ?_
  refine nmE h ?_
  clear h
  intro v8 e_v8 h
  refine wtop e_v8 ?_
  refine x_istore (pc := 28) (ls2 := [(7, V v8), (6, V (-1)), (5, V (-1)), (4, V (-1)), (3, V v6), (0, .ref 0), (1, .ref c1), (2, V a2)]) (dK D_Law_evictions_0 19 rfl) (ltK rfl) rfl ?_
  refine wx_iconst (pc := 30) (dK D_Law_evictions_0 20 rfl) ?_
  refine x_istore (pc := 31) (ls2 := [(8, V 1), (7, V v8), (6, V (-1)), (5, V (-1)), (4, V (-1)), (3, V v6), (0, .ref 0), (1, .ref c1), (2, V a2)]) (dK D_Law_evictions_0 21 rfl) (ltK rfl) rfl ?_
  refine bnTE h ?_ ?_
  · clear h
    intro p47 r48 yp47 e_p47 f_p47 h e9
    subst e9
    have hk1 := bd1 hb
    have hn1 := bd2 hb
    replace hb := bdA hb
    refine x_weak (ls' := [(0, .ref 0), (1, .ref c1), (3, V v6), (4, V (-1)), (5, V (-1)), (6, V (-1)), (7, V v8), (8, V 1)]) (sbc 6 rfl (sbc 7 rfl (sbc 5 rfl (sbc 4 rfl (sbc 3 rfl (sbc 2 rfl (sbc 1 rfl (sbc 0 rfl sbn)))))))) ?_
    refine tl2_Law_evictions_33 (Vn_in e_v6) (Vn_in e_v8) hk1 hn1 FU _ _ e_p47 _ _ ⟨Nat.le_refl _, Nat.le_refl _⟩ (inRk rfl) (inRk rfl) (inRk rfl) (inRk rfl) (fun _ g_ => by rw [f_p47] at g_; exact nomatch g_) (fun r_ g_  => ?_)
    obtain rfl := Sum.inl.inj (f_p47.symm.trans g_)
    obtain rfl := Option.some.inj h
    exact ⟨rfl, rfl⟩
  · clear h
    intro p47 e49 yp47 e_p47 f_p47 h e9
    subst e9
    have hk1 := bd1 hb
    have hn1 := bd2 hb
    replace hb := bdA hb
    refine x_weak (ls' := [(0, .ref 0), (1, .ref c1), (3, V v6), (4, V (-1)), (5, V (-1)), (6, V (-1)), (7, V v8), (8, V 1)]) (sbc 6 rfl (sbc 7 rfl (sbc 5 rfl (sbc 4 rfl (sbc 3 rfl (sbc 2 rfl (sbc 1 rfl (sbc 0 rfl sbn)))))))) ?_
    refine tl2_Law_evictions_33 (Vn_in e_v6) (Vn_in e_v8) hk1 hn1 FU _ _ e_p47 _ _ ⟨Nat.le_refl _, Nat.le_refl _⟩ (inRk rfl) (inRk rfl) (inRk rfl) (inRk rfl) (fun e_ g_ hx4_p47 hx6_p47 => ?_) (fun _ g_ => by rw [f_p47] at g_; exact nomatch g_)
    obtain rfl := Sum.inr.inj (f_p47.symm.trans g_)
    refine x_aloadn (pc := 150) (i0 := 0) (j := 0) (dK D_Law_evictions_1 25 rfl) rfl rfl ?_
    refine x_iloadn (pc := 151) (i0 := 3) (j := 1) (dK D_Law_evictions_1 26 rfl) rfl rfl ?_
    refine bnE h ?_
    clear h
    intro p50 e_p50 h
    refine gdE h ?_
    clear h
    intro hz_p50 h
    obtain ⟨yp50, h9, e9⟩ := adE2 h
    clear h
    subst e9
    have h := h9
    clear h9
    have hk1 := bd1 hb
    have hn1 := bd2 hb
    replace hb := bdA hb
    refine x_callX (pc := 152) (As := [V v6]) (rest := []) (mc' := 1) (ms' := 6) (dK D_Law_evictions_1 27 rfl) Q_Law_297 sx_FP_cheapestPage (fitK rfl) (isK_at (Z := (e49.2.2.1, e49.2.2.2)) (ci := 10) isK0) rfl (leK rfl) hk1 hn1 (clTI hz_p50 (fun E => tf_FP_cheapestPage (X := xz e49.2.2.2) rfl xz_hc (Vn_in e_v6) e_p50)) (kxI' (fun h_p50 => ?_))
    refine x_iload (pc := 155) (j := 2) (dK D_Law_evictions_1 28 rfl) rfl ?_
    refine wx_icmp_ne (pc := 157) (t := 176) (dK D_Law_evictions_1 29 rfl) rfl h_p50 hx4_p47 (fun hc53 => ?_) (fun hc53 => ?_)
    · replace h := ifN h hc53
      refine wx_iconst (pc := 176) (dK D_Law_evictions_1 38 rfl) ?_
      obtain rfl := Option.some.inj h
      exact wk_iretB (pc := 177) (b := false) (dK D_Law_evictions_1 39 rfl) rfl (bdk hb) (bdn hb) ⟨rfl, rfl⟩
    · replace h := ifP h hc53
      refine x_aloadn (pc := 160) (i0 := 0) (j := 0) (dK D_Law_evictions_1 30 rfl) rfl rfl ?_
      refine x_iloadn (pc := 161) (i0 := 3) (j := 1) (dK D_Law_evictions_1 31 rfl) rfl rfl ?_
      refine x_iload (pc := 162) (j := 4) (dK D_Law_evictions_1 32 rfl) rfl ?_
      refine bnE h ?_
      clear h
      intro p51 e_p51 h
      refine gdE h ?_
      clear h
      intro hz_p51 h
      obtain ⟨yp51, h9, e9⟩ := adE2 h
      clear h
      subst e9
      have h := h9
      clear h9
      have hk1 := bd1 hb
      have hn1 := bd2 hb
      replace hb := bdA hb
      refine x_callX (pc := 164) (As := [V v6, V v8]) (rest := []) (mc' := 1) (ms' := 6) (dK D_Law_evictions_1 33 rfl) Q_Law_300 sx_FP_firstPage (fitK rfl) (isK_at (Z := (p50.2.2, e49.2.2.2)) (ci := 10) isK0) rfl (leK rfl) hk1 hn1 (clTI hz_p51 (fun E => tf_FP_firstPage (X := xz e49.2.2.2) rfl xz_hc (Vn_in e_v6) (Vn_in e_v8) e_p51)) (kxI' (fun h_p51 => ?_))
      refine x_iload (pc := 167) (j := 3) (dK D_Law_evictions_1 34 rfl) rfl ?_
      refine wx_icmp_ne (pc := 169) (t := 176) (dK D_Law_evictions_1 35 rfl) rfl h_p51 hx6_p47 (fun hc52 => ?_) (fun hc52 => ?_)
      · replace h := ifN h hc52
        refine wx_iconst (pc := 176) (dK D_Law_evictions_1 38 rfl) ?_
        obtain rfl := Option.some.inj h
        exact wk_iretB (pc := 177) (b := false) (dK D_Law_evictions_1 39 rfl) rfl (bdk hb) (bdn hb) ⟨rfl, rfl⟩
      · replace h := ifP h hc52
        refine wx_iconst (pc := 172) (dK D_Law_evictions_1 36 rfl) ?_
        refine x_goto (pc := 173) (tgt := 177) (dK D_Law_evictions_1 37 rfl) rfl ?_
        obtain rfl := Option.some.inj h
        exact wk_iretB (pc := 177) (b := true) (dK D_Law_evictions_1 39 rfl) rfl (bdk hb) (bdn hb) ⟨rfl, rfl⟩
theorem tg_Law_evictions {sc : SC} {c1 : Nat} {a2 : Int} (ha2 : inR a2) {S : St} {L : List PC} {q : (Bool × LZ) × Nat × Nat} (h : gn_Law_evictions c1 a2 S L = some q) : EvX sc M_Law_evictions [.ref 0, .ref c1, V a2] (wz (S, L)) q.2.1 q.2.2 (KXB q.1.1 q.1.2) := EvX.of pn2_Law rfl (leK rfl) (te_Law_evictions ha2 h ⟨Nat.le_of_eq (Nat.zero_add _), Nat.le_of_eq (Nat.zero_add _)⟩)
