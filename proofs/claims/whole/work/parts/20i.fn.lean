def lb_Mo_evictionOf_71 (c0 : Nat) (a1 : Int) (a2 : Int) (go : Int × Int × Int × Int × Int × St → Option (Int × Int × Int × Int × St)) (a3 : Int) (a4 : Int) (a5 : Int) (a6 : Int) (a7 : Int) (S : St) : Option (Int × Int × Int × Int × St) := if (g S (tgt c0 0) 1) ≤ a7 then (some (a3, a4, a5, a6, S)) else (bnO (fn_Mo_ofAd c0 a7 6 S) fun p9 => if a7 = a1 then (nm (wr (a7 + 1)) fun v10 => go (a3, a4, a5, a6, v10, S)) else (if p9 = 0 then (nm (wr (a7 + 1)) fun v11 => go (a3, a4, a5, a6, v11, S)) else (nm (wr (a2.tdiv 2)) fun v12 => nm (wr (p9.tdiv 2)) fun v13 => if v13 = v12 then (bnO (fn_Mo_ofAd c0 a1 1 S) fun p14 => if p14 = 0 then (if p9 = a2 then (if 0 ≤ a5 ∧ a5 < 4 then (nm (u S (tgt c0 6) a5.toNat a7) fun S17 => nm (wr (a5 + 1)) fun v18 => nm (wr (a7 + 1)) fun v19 => go (a3, a4, v18, a6, v19, S17)) else none) else (nm (wr (a7 + 1)) fun v15 => go (a3, a4, a5, a6, v15, S))) else (bnO (fn_Mo_ofAd c0 a7 1 S) fun p21 => bnO (fn_Mo_ofAd c0 a1 1 S) fun p22 => if p21 = p22 then (bnO (fn_Mo_ofAd c0 a7 4 S) fun p29 => nm (wr (a4 + p29)) fun v30 => if p9 = a2 then (bnO (fn_Mo_ofAd c0 a7 0 S) fun p34 => nm (wr (a3 + p34)) fun v35 => bnO (fn_Mo_isPrinted c0 p9 S) fun p36 => nm (wr (a7 + 1)) fun v37 => go (v35, v30, a5, (i_or a6 (bi p36)), v37, S)) else (nm (wr (a3 + 0)) fun v31 => bnO (fn_Mo_isPrinted c0 p9 S) fun p32 => nm (wr (a7 + 1)) fun v33 => go (v31, v30, a5, (i_or a6 (bi p32)), v33, S))) else (if p9 = a2 then (if 0 ≤ a5 ∧ a5 < 4 then (nm (u S (tgt c0 6) a5.toNat a7) fun S25 => nm (wr (a5 + 1)) fun v26 => nm (wr (a7 + 1)) fun v27 => go (a3, a4, v26, a6, v27, S25)) else none) else (nm (wr (a7 + 1)) fun v23 => go (a3, a4, a5, a6, v23, S))))) else (nm (wr (a7 + 1)) fun v41 => go (a3, a4, a5, a6, v41, S)))))
def lo_Mo_evictionOf_71 (c0 : Nat) (a1 : Int) (a2 : Int) : Nat → Int × Int × Int × Int × Int × St → Option (Int × Int × Int × Int × St) := lp fun go p => lb_Mo_evictionOf_71 c0 a1 a2 go p.1 p.2.1 p.2.2.1 p.2.2.2.1 p.2.2.2.2.1 p.2.2.2.2.2
set_option maxHeartbeats 20000000 in
theorem tl_Mo_evictionOf_71 {E : EV} {X : XT} {c0 : Nat} (hc0 : HC X 11 c0) {a1 : Int} (ha1 : inR a1) {a2 : Int} (ha2 : inR a2) {K : RK → PS → Prop} {q : Int × Int × Int × Int × St} (hx : inR q.1 → inR q.2.1 → inR q.2.2.1 → inR q.2.2.2.1 → Go E M_Mo_evictionOf 0 0 211 [(0, .ref c0), (1, V a1), (3, V q.1), (4, V q.2.1), (5, V q.2.2.1), (6, V q.2.2.2.1)] [] (WX X q.2.2.2.2) 0 0 K) : ∀ n a, lo_Mo_evictionOf_71 c0 a1 a2 n a = some q → inR a.1 → inR a.2.1 → inR a.2.2.1 → inR a.2.2.2.1 → inR a.2.2.2.2.1 → Go E M_Mo_evictionOf 0 0 71 [(0, .ref c0), (1, V a1), (2, V a2), (3, V a.1), (4, V a.2.1), (5, V a.2.2.1), (6, V a.2.2.2.1), (7, V a.2.2.2.2.1)] [] (WX X a.2.2.2.2.2) 0 0 K := by
  refine lp_ind (P := fun a : Int × Int × Int × Int × Int × St => inR a.1 → inR a.2.1 → inR a.2.2.1 → inR a.2.2.2.1 → inR a.2.2.2.2.1 → Go E M_Mo_evictionOf 0 0 71 [(0, .ref c0), (1, V a1), (2, V a2), (3, V a.1), (4, V a.2.1), (5, V a.2.2.1), (6, V a.2.2.2.1), (7, V a.2.2.2.2.1)] [] (WX X a.2.2.2.2.2) 0 0 K) (fun go ih a h => ?_)
  obtain ⟨a3, a4, a5, a6, a7, S⟩ := a
  intro ha3 ha4 ha5 ha6 ha7
  show Go E M_Mo_evictionOf 0 0 71 [(0, .ref c0), (1, V a1), (2, V a2), (3, V a3), (4, V a4), (5, V a5), (6, V a6), (7, V a7)] [] (WX X S) 0 0 K
  replace h : lb_Mo_evictionOf_71 c0 a1 a2 go a3 a4 a5 a6 a7 S = some q := h
  unfold lb_Mo_evictionOf_71 at h
  refine g_iload (pc := 71) (j := 7) (dK D_Mo_evictionOf_0 43 rfl) rfl ?_
  refine g_aloadn (pc := 73) (i0 := 0) (j := 0) (dK D_Mo_evictionOf_0 44 rfl) rfl rfl ?_
  refine vg_getA (pc := 74) (ci := 11) (f := 0) (dK D_Mo_evictionOf_0 45 rfl) q_1442 hc0 (ltK rfl) (ltK rfl) rfl ?_
  refine vg_iconst (pc := 77) (dK D_Mo_evictionOf_0 46 rfl) ?_
  refine vg_iaload (pc := 78) (j := 1) (dK D_Mo_evictionOf_0 47 rfl) (hw_11_0 hc0) rfl ⟨by decide, by decide⟩ rfl ?_
  refine vg_icmp_ge (pc := 79) (t := 211) (dK D_Mo_evictionOf_0 48 rfl) rfl ha7 (g_in _ _ _) (fun hc45 => ?_) (fun hc45 => ?_)
  · replace h := ifP h hc45
    obtain rfl := Option.some.inj h
    refine gL_weak (ls' := [(0, .ref c0), (1, V a1), (3, V a3), (4, V a4), (5, V a5), (6, V a6)]) (sbc 0 rfl (sbc 1 rfl (sbc 3 rfl (sbc 4 rfl (sbc 5 rfl (sbc 6 rfl sbn)))))) ?_
    exact hx ha3 ha4 ha5 ha6
  · replace h := ifN h hc45
    refine g_aloadn (pc := 82) (i0 := 0) (j := 0) (dK D_Mo_evictionOf_0 49 rfl) rfl rfl ?_
    refine g_iload (pc := 83) (j := 7) (dK D_Mo_evictionOf_1 0 rfl) rfl ?_
    refine vg_bipush (pc := 85) (dK D_Mo_evictionOf_1 1 rfl) rfl ?_
    refine bnE h (fun p9 e_p9 h => ?_)
    refine vg_cV (pc := 87) (As := [V a7, V 6]) (rest := []) (mc' := 0) (ms' := 0) (dK D_Mo_evictionOf_1 2 rfl) K_Mo_82 (fitK rfl) (ltK rfl) hc0 rfl (leK rfl) (leK rfl) (leK rfl) (tf_Mo_ofAd hc0 ha7 (inRk rfl) e_p9) (kcI (fun h_p9 => ?_))
    refine g_istore (pc := 90) (ls2 := [(8, V p9), (0, .ref c0), (1, V a1), (2, V a2), (3, V a3), (4, V a4), (5, V a5), (6, V a6), (7, V a7)]) (dK D_Mo_evictionOf_1 3 rfl) (ltK rfl) rfl ?_
    refine g_iload (pc := 92) (j := 8) (dK D_Mo_evictionOf_1 4 rfl) rfl ?_
    refine g_iloadn (pc := 94) (i0 := 1) (j := 2) (dK D_Mo_evictionOf_1 5 rfl) rfl rfl ?_
    refine vg_icmp_eq (pc := 95) (t := 205) (dK D_Mo_evictionOf_1 6 rfl) rfl ha7 ha1 (fun hc44 => ?_) (fun hc44 => ?_)
    · replace h := ifP h hc44
      refine nmE h (fun v10 e_v10 h => ?_)
      refine vg_iinc (pc := 205) (j := 8) (a := a7) (z := 1) (ls2 := [(7, V v10), (8, V p9), (0, .ref c0), (1, V a1), (2, V a2), (3, V a3), (4, V a4), (5, V a5), (6, V a6)]) (dK D_Mo_evictionOf_2 16 rfl) rfl e_v10 (ltK rfl) rfl ?_
      refine g_goto (pc := 208) (tgt := 71) (dK D_Mo_evictionOf_2 17 rfl) rfl ?_
      refine gL_weak (ls' := [(0, .ref c0), (1, V a1), (2, V a2), (3, V a3), (4, V a4), (5, V a5), (6, V a6), (7, V v10)]) (sbc 2 rfl (sbc 3 rfl (sbc 4 rfl (sbc 5 rfl (sbc 6 rfl (sbc 7 rfl (sbc 8 rfl (sbc 0 rfl sbn)))))))) ?_
      replace h := ih _ h
      exact h ha3 ha4 ha5 ha6 (Vn_in e_v10)
    · replace h := ifN h hc44
      refine g_iload (pc := 98) (j := 0) (dK D_Mo_evictionOf_1 7 rfl) rfl ?_
      refine vg_if_eq (pc := 100) (t := 205) (dK D_Mo_evictionOf_1 8 rfl) rfl h_p9 (fun hc43 => ?_) (fun hc43 => ?_)
      · replace h := ifP h hc43
        refine nmE h (fun v11 e_v11 h => ?_)
        refine vg_iinc (pc := 205) (j := 8) (a := a7) (z := 1) (ls2 := [(7, V v11), (8, V p9), (0, .ref c0), (1, V a1), (2, V a2), (3, V a3), (4, V a4), (5, V a5), (6, V a6)]) (dK D_Mo_evictionOf_2 16 rfl) rfl e_v11 (ltK rfl) rfl ?_
        refine g_goto (pc := 208) (tgt := 71) (dK D_Mo_evictionOf_2 17 rfl) rfl ?_
        refine gL_weak (ls' := [(0, .ref c0), (1, V a1), (2, V a2), (3, V a3), (4, V a4), (5, V a5), (6, V a6), (7, V v11)]) (sbc 2 rfl (sbc 3 rfl (sbc 4 rfl (sbc 5 rfl (sbc 6 rfl (sbc 7 rfl (sbc 8 rfl (sbc 0 rfl sbn)))))))) ?_
        replace h := ih _ h
        exact h ha3 ha4 ha5 ha6 (Vn_in e_v11)
      · replace h := ifN h hc43
        refine g_iload (pc := 103) (j := 0) (dK D_Mo_evictionOf_1 9 rfl) rfl ?_
        refine vg_iconst (pc := 105) (dK D_Mo_evictionOf_1 10 rfl) ?_
        refine vg_idiv (pc := 106) (dK D_Mo_evictionOf_1 11 rfl) h_p9 (inRk rfl) (by decide) ?_
        refine g_iloadn (pc := 107) (i0 := 2) (j := 3) (dK D_Mo_evictionOf_1 12 rfl) rfl rfl ?_
        refine vg_iconst (pc := 108) (dK D_Mo_evictionOf_1 13 rfl) ?_
        refine vg_idiv (pc := 109) (dK D_Mo_evictionOf_1 14 rfl) ha2 (inRk rfl) (by decide) ?_
        refine nmE h (fun v12 e_v12 h => ?_)
        refine gtop e_v12 ?_
        refine nmE h (fun v13 e_v13 h => ?_)
        refine gsk (st' := [V v12, V v13]) (by rw [Vn e_v13]) ?_
        refine vg_icmp_eq (pc := 110) (t := 116) (dK D_Mo_evictionOf_1 15 rfl) rfl (Vn_in e_v13) (Vn_in e_v12) (fun hc42 => ?_) (fun hc42 => ?_)
        · replace h := ifP h hc42
          refine g_aloadn (pc := 116) (i0 := 0) (j := 1) (dK D_Mo_evictionOf_1 17 rfl) rfl rfl ?_
          refine g_iloadn (pc := 117) (i0 := 1) (j := 2) (dK D_Mo_evictionOf_1 18 rfl) rfl rfl ?_
          refine vg_iconst (pc := 118) (dK D_Mo_evictionOf_1 19 rfl) ?_
          refine bnE h (fun p14 e_p14 h => ?_)
          refine vg_cV (pc := 119) (As := [V a1, V 1]) (rest := []) (mc' := 0) (ms' := 0) (dK D_Mo_evictionOf_1 20 rfl) K_Mo_82 (fitK rfl) (ltK rfl) hc0 rfl (leK rfl) (leK rfl) (leK rfl) (tf_Mo_ofAd hc0 ha1 (inRk rfl) e_p14) (kcI (fun h_p14 => ?_))
          refine vg_if_eq (pc := 122) (t := 187) (dK D_Mo_evictionOf_1 21 rfl) rfl h_p14 (fun hc40 => ?_) (fun hc40 => ?_)
          · replace h := ifP h hc40
            refine g_iload (pc := 187) (j := 0) (dK D_Mo_evictionOf_2 7 rfl) rfl ?_
            refine g_iloadn (pc := 189) (i0 := 2) (j := 3) (dK D_Mo_evictionOf_2 8 rfl) rfl rfl ?_
            refine vg_icmp_ne (pc := 190) (t := 205) (dK D_Mo_evictionOf_2 9 rfl) rfl h_p9 ha2 (fun hc20 => ?_) (fun hc20 => ?_)
            · replace h := ifN h hc20
              refine nmE h (fun v15 e_v15 h => ?_)
              refine vg_iinc (pc := 205) (j := 8) (a := a7) (z := 1) (ls2 := [(7, V v15), (8, V p9), (0, .ref c0), (1, V a1), (2, V a2), (3, V a3), (4, V a4), (5, V a5), (6, V a6)]) (dK D_Mo_evictionOf_2 16 rfl) rfl e_v15 (ltK rfl) rfl ?_
              refine g_goto (pc := 208) (tgt := 71) (dK D_Mo_evictionOf_2 17 rfl) rfl ?_
              refine gL_weak (ls' := [(0, .ref c0), (1, V a1), (2, V a2), (3, V a3), (4, V a4), (5, V a5), (6, V a6), (7, V v15)]) (sbc 2 rfl (sbc 3 rfl (sbc 4 rfl (sbc 5 rfl (sbc 6 rfl (sbc 7 rfl (sbc 8 rfl (sbc 0 rfl sbn)))))))) ?_
              replace h := ih _ h
              exact h ha3 ha4 ha5 ha6 (Vn_in e_v15)
            · replace h := ifP h hc20
              refine g_aloadn (pc := 193) (i0 := 0) (j := 1) (dK D_Mo_evictionOf_2 10 rfl) rfl rfl ?_
              refine vg_getA (pc := 194) (ci := 11) (f := 6) (dK D_Mo_evictionOf_2 11 rfl) q_1448 hc0 (ltK rfl) (ltK rfl) rfl ?_
              refine g_iload (pc := 197) (j := 6) (dK D_Mo_evictionOf_2 12 rfl) rfl ?_
              refine g_iload (pc := 199) (j := 8) (dK D_Mo_evictionOf_2 13 rfl) rfl ?_
              refine gdE h (fun hi16 h => ?_)
              refine nmE h (fun S17 e_S17 h => ?_)
              refine vg_iastore (pc := 201) (z := a7) (dK D_Mo_evictionOf_2 14 rfl) (hw_11_6 hc0) rfl hi16 rfl e_S17 ?_
              refine nmE h (fun v18 e_v18 h => ?_)
              refine vg_iinc (pc := 202) (j := 6) (a := a5) (z := 1) (ls2 := [(5, V v18), (8, V p9), (0, .ref c0), (1, V a1), (2, V a2), (3, V a3), (4, V a4), (6, V a6), (7, V a7)]) (dK D_Mo_evictionOf_2 15 rfl) rfl e_v18 (ltK rfl) rfl ?_
              refine nmE h (fun v19 e_v19 h => ?_)
              refine vg_iinc (pc := 205) (j := 8) (a := a7) (z := 1) (ls2 := [(7, V v19), (5, V v18), (8, V p9), (0, .ref c0), (1, V a1), (2, V a2), (3, V a3), (4, V a4), (6, V a6)]) (dK D_Mo_evictionOf_2 16 rfl) rfl e_v19 (ltK rfl) rfl ?_
              refine g_goto (pc := 208) (tgt := 71) (dK D_Mo_evictionOf_2 17 rfl) rfl ?_
              refine gL_weak (ls' := [(0, .ref c0), (1, V a1), (2, V a2), (3, V a3), (4, V a4), (5, V v18), (6, V a6), (7, V v19)]) (sbc 3 rfl (sbc 4 rfl (sbc 5 rfl (sbc 6 rfl (sbc 7 rfl (sbc 1 rfl (sbc 8 rfl (sbc 0 rfl sbn)))))))) ?_
              replace h := ih _ h
              exact h ha3 ha4 (Vn_in e_v18) ha6 (Vn_in e_v19)
          · replace h := ifN h hc40
            refine g_aloadn (pc := 125) (i0 := 0) (j := 1) (dK D_Mo_evictionOf_1 22 rfl) rfl rfl ?_
            refine g_iload (pc := 126) (j := 8) (dK D_Mo_evictionOf_1 23 rfl) rfl ?_
            refine vg_iconst (pc := 128) (dK D_Mo_evictionOf_1 24 rfl) ?_
            refine bnE h (fun p21 e_p21 h => ?_)
            refine vg_cV (pc := 129) (As := [V a7, V 1]) (rest := []) (mc' := 0) (ms' := 0) (dK D_Mo_evictionOf_1 25 rfl) K_Mo_82 (fitK rfl) (ltK rfl) hc0 rfl (leK rfl) (leK rfl) (leK rfl) (tf_Mo_ofAd hc0 ha7 (inRk rfl) e_p21) (kcI (fun h_p21 => ?_))
            refine g_aloadn (pc := 132) (i0 := 0) (j := 1) (dK D_Mo_evictionOf_1 26 rfl) rfl rfl ?_
            refine g_iloadn (pc := 133) (i0 := 1) (j := 2) (dK D_Mo_evictionOf_1 27 rfl) rfl rfl ?_
            refine vg_iconst (pc := 134) (dK D_Mo_evictionOf_1 28 rfl) ?_
            refine bnE h (fun p22 e_p22 h => ?_)
            refine vg_cV (pc := 135) (As := [V a1, V 1]) (rest := [V p21]) (mc' := 0) (ms' := 0) (dK D_Mo_evictionOf_1 29 rfl) K_Mo_82 (fitK rfl) (ltK rfl) hc0 rfl (leK rfl) (leK rfl) (leK rfl) (tf_Mo_ofAd hc0 ha1 (inRk rfl) e_p22) (kcI (fun h_p22 => ?_))
            refine vg_icmp_ne (pc := 138) (t := 187) (dK D_Mo_evictionOf_1 30 rfl) rfl h_p21 h_p22 (fun hc39 => ?_) (fun hc39 => ?_)
            · replace h := ifN h hc39
              refine g_iload (pc := 187) (j := 0) (dK D_Mo_evictionOf_2 7 rfl) rfl ?_
              refine g_iloadn (pc := 189) (i0 := 2) (j := 3) (dK D_Mo_evictionOf_2 8 rfl) rfl rfl ?_
              refine vg_icmp_ne (pc := 190) (t := 205) (dK D_Mo_evictionOf_2 9 rfl) rfl h_p9 ha2 (fun hc28 => ?_) (fun hc28 => ?_)
              · replace h := ifN h hc28
                refine nmE h (fun v23 e_v23 h => ?_)
                refine vg_iinc (pc := 205) (j := 8) (a := a7) (z := 1) (ls2 := [(7, V v23), (8, V p9), (0, .ref c0), (1, V a1), (2, V a2), (3, V a3), (4, V a4), (5, V a5), (6, V a6)]) (dK D_Mo_evictionOf_2 16 rfl) rfl e_v23 (ltK rfl) rfl ?_
                refine g_goto (pc := 208) (tgt := 71) (dK D_Mo_evictionOf_2 17 rfl) rfl ?_
                refine gL_weak (ls' := [(0, .ref c0), (1, V a1), (2, V a2), (3, V a3), (4, V a4), (5, V a5), (6, V a6), (7, V v23)]) (sbc 2 rfl (sbc 3 rfl (sbc 4 rfl (sbc 5 rfl (sbc 6 rfl (sbc 7 rfl (sbc 8 rfl (sbc 0 rfl sbn)))))))) ?_
                replace h := ih _ h
                exact h ha3 ha4 ha5 ha6 (Vn_in e_v23)
              · replace h := ifP h hc28
                refine g_aloadn (pc := 193) (i0 := 0) (j := 1) (dK D_Mo_evictionOf_2 10 rfl) rfl rfl ?_
                refine vg_getA (pc := 194) (ci := 11) (f := 6) (dK D_Mo_evictionOf_2 11 rfl) q_1448 hc0 (ltK rfl) (ltK rfl) rfl ?_
                refine g_iload (pc := 197) (j := 6) (dK D_Mo_evictionOf_2 12 rfl) rfl ?_
                refine g_iload (pc := 199) (j := 8) (dK D_Mo_evictionOf_2 13 rfl) rfl ?_
                refine gdE h (fun hi24 h => ?_)
                refine nmE h (fun S25 e_S25 h => ?_)
                refine vg_iastore (pc := 201) (z := a7) (dK D_Mo_evictionOf_2 14 rfl) (hw_11_6 hc0) rfl hi24 rfl e_S25 ?_
                refine nmE h (fun v26 e_v26 h => ?_)
                refine vg_iinc (pc := 202) (j := 6) (a := a5) (z := 1) (ls2 := [(5, V v26), (8, V p9), (0, .ref c0), (1, V a1), (2, V a2), (3, V a3), (4, V a4), (6, V a6), (7, V a7)]) (dK D_Mo_evictionOf_2 15 rfl) rfl e_v26 (ltK rfl) rfl ?_
                refine nmE h (fun v27 e_v27 h => ?_)
                refine vg_iinc (pc := 205) (j := 8) (a := a7) (z := 1) (ls2 := [(7, V v27), (5, V v26), (8, V p9), (0, .ref c0), (1, V a1), (2, V a2), (3, V a3), (4, V a4), (6, V a6)]) (dK D_Mo_evictionOf_2 16 rfl) rfl e_v27 (ltK rfl) rfl ?_
                refine g_goto (pc := 208) (tgt := 71) (dK D_Mo_evictionOf_2 17 rfl) rfl ?_
                refine gL_weak (ls' := [(0, .ref c0), (1, V a1), (2, V a2), (3, V a3), (4, V a4), (5, V v26), (6, V a6), (7, V v27)]) (sbc 3 rfl (sbc 4 rfl (sbc 5 rfl (sbc 6 rfl (sbc 7 rfl (sbc 1 rfl (sbc 8 rfl (sbc 0 rfl sbn)))))))) ?_
                replace h := ih _ h
                exact h ha3 ha4 (Vn_in e_v26) ha6 (Vn_in e_v27)
            · replace h := ifP h hc39
              refine g_iload (pc := 141) (j := 5) (dK D_Mo_evictionOf_1 31 rfl) rfl ?_
              refine g_aloadn (pc := 143) (i0 := 0) (j := 1) (dK D_Mo_evictionOf_1 32 rfl) rfl rfl ?_
              refine g_iload (pc := 144) (j := 8) (dK D_Mo_evictionOf_1 33 rfl) rfl ?_
              refine vg_iconst (pc := 146) (dK D_Mo_evictionOf_1 34 rfl) ?_
              refine bnE h (fun p29 e_p29 h => ?_)
              refine vg_cV (pc := 147) (As := [V a7, V 4]) (rest := [V a4]) (mc' := 0) (ms' := 0) (dK D_Mo_evictionOf_1 35 rfl) K_Mo_82 (fitK rfl) (ltK rfl) hc0 rfl (leK rfl) (leK rfl) (leK rfl) (tf_Mo_ofAd hc0 ha7 (inRk rfl) e_p29) (kcI (fun h_p29 => ?_))
              refine vg_iadd (pc := 150) (dK D_Mo_evictionOf_1 36 rfl) ?_
              refine nmE h (fun v30 e_v30 h => ?_)
              refine gtop e_v30 ?_
              refine g_istore (pc := 151) (ls2 := [(4, V v30), (8, V p9), (0, .ref c0), (1, V a1), (2, V a2), (3, V a3), (5, V a5), (6, V a6), (7, V a7)]) (dK D_Mo_evictionOf_1 37 rfl) (ltK rfl) rfl ?_
              refine g_iloadn (pc := 153) (i0 := 3) (j := 5) (dK D_Mo_evictionOf_1 38 rfl) rfl rfl ?_
              refine g_iload (pc := 154) (j := 1) (dK D_Mo_evictionOf_1 39 rfl) rfl ?_
              refine g_iloadn (pc := 156) (i0 := 2) (j := 4) (dK D_Mo_evictionOf_1 40 rfl) rfl rfl ?_
              refine vg_icmp_ne (pc := 157) (t := 170) (dK D_Mo_evictionOf_1 41 rfl) rfl h_p9 ha2 (fun hc38 => ?_) (fun hc38 => ?_)
              · replace h := ifN h hc38
                refine vg_iconst (pc := 170) (dK D_Mo_evictionOf_1 47 rfl) ?_
                refine vg_iadd (pc := 171) (dK D_Mo_evictionOf_1 48 rfl) ?_
                refine nmE h (fun v31 e_v31 h => ?_)
                refine gtop e_v31 ?_
                refine g_istoren (pc := 172) (i0 := 3) (ls2 := [(3, V v31), (4, V v30), (8, V p9), (0, .ref c0), (1, V a1), (2, V a2), (5, V a5), (6, V a6), (7, V a7)]) (dK D_Mo_evictionOf_1 49 rfl) rfl (ltK rfl) rfl ?_
                refine g_iload (pc := 173) (j := 7) (dK D_Mo_evictionOf_2 0 rfl) rfl ?_
                refine g_aloadn (pc := 175) (i0 := 0) (j := 3) (dK D_Mo_evictionOf_2 1 rfl) rfl rfl ?_
                refine g_iload (pc := 176) (j := 2) (dK D_Mo_evictionOf_2 2 rfl) rfl ?_
                refine bnE h (fun p32 e_p32 h => ?_)
                refine vg_cV (pc := 178) (As := [V p9]) (rest := [V a6]) (mc' := 0) (ms' := 0) (dK D_Mo_evictionOf_2 3 rfl) K_Mo_109 (fitK rfl) (ltK rfl) hc0 rfl (leK rfl) (leK rfl) (leK rfl) (tf_Mo_isPrinted hc0 h_p9 e_p32) (kcB ?_)
                refine vg_ior (pc := 181) (dK D_Mo_evictionOf_2 4 rfl) ?_
                refine g_istore (pc := 182) (ls2 := [(6, V (i_or a6 (bi p32))), (3, V v31), (4, V v30), (8, V p9), (0, .ref c0), (1, V a1), (2, V a2), (5, V a5), (7, V a7)]) (dK D_Mo_evictionOf_2 5 rfl) (ltK rfl) rfl ?_
                refine g_goto (pc := 184) (tgt := 205) (dK D_Mo_evictionOf_2 6 rfl) rfl ?_
                refine nmE h (fun v33 e_v33 h => ?_)
                refine vg_iinc (pc := 205) (j := 8) (a := a7) (z := 1) (ls2 := [(7, V v33), (6, V (i_or a6 (bi p32))), (3, V v31), (4, V v30), (8, V p9), (0, .ref c0), (1, V a1), (2, V a2), (5, V a5)]) (dK D_Mo_evictionOf_2 16 rfl) rfl e_v33 (ltK rfl) rfl ?_
                refine g_goto (pc := 208) (tgt := 71) (dK D_Mo_evictionOf_2 17 rfl) rfl ?_
                refine gL_weak (ls' := [(0, .ref c0), (1, V a1), (2, V a2), (3, V v31), (4, V v30), (5, V a5), (6, V (i_or a6 (bi p32))), (7, V v33)]) (sbc 5 rfl (sbc 6 rfl (sbc 7 rfl (sbc 2 rfl (sbc 3 rfl (sbc 8 rfl (sbc 1 rfl (sbc 0 rfl sbn)))))))) ?_
                replace h := ih _ h
                exact h (Vn_in e_v31) (Vn_in e_v30) ha5 (toInt_in _) (Vn_in e_v33)
              · replace h := ifP h hc38
                refine g_aloadn (pc := 160) (i0 := 0) (j := 2) (dK D_Mo_evictionOf_1 42 rfl) rfl rfl ?_
                refine g_iload (pc := 161) (j := 8) (dK D_Mo_evictionOf_1 43 rfl) rfl ?_
                refine vg_iconst (pc := 163) (dK D_Mo_evictionOf_1 44 rfl) ?_
                refine bnE h (fun p34 e_p34 h => ?_)
                refine vg_cV (pc := 164) (As := [V a7, V 0]) (rest := [V a3]) (mc' := 0) (ms' := 0) (dK D_Mo_evictionOf_1 45 rfl) K_Mo_82 (fitK rfl) (ltK rfl) hc0 rfl (leK rfl) (leK rfl) (leK rfl) (tf_Mo_ofAd hc0 ha7 (inRk rfl) e_p34) (kcI (fun h_p34 => ?_))
                refine g_goto (pc := 167) (tgt := 171) (dK D_Mo_evictionOf_1 46 rfl) rfl ?_
                refine vg_iadd (pc := 171) (dK D_Mo_evictionOf_1 48 rfl) ?_
                refine nmE h (fun v35 e_v35 h => ?_)
                refine gtop e_v35 ?_
                refine g_istoren (pc := 172) (i0 := 3) (ls2 := [(3, V v35), (4, V v30), (8, V p9), (0, .ref c0), (1, V a1), (2, V a2), (5, V a5), (6, V a6), (7, V a7)]) (dK D_Mo_evictionOf_1 49 rfl) rfl (ltK rfl) rfl ?_
                refine g_iload (pc := 173) (j := 7) (dK D_Mo_evictionOf_2 0 rfl) rfl ?_
                refine g_aloadn (pc := 175) (i0 := 0) (j := 3) (dK D_Mo_evictionOf_2 1 rfl) rfl rfl ?_
                refine g_iload (pc := 176) (j := 2) (dK D_Mo_evictionOf_2 2 rfl) rfl ?_
                refine bnE h (fun p36 e_p36 h => ?_)
                refine vg_cV (pc := 178) (As := [V p9]) (rest := [V a6]) (mc' := 0) (ms' := 0) (dK D_Mo_evictionOf_2 3 rfl) K_Mo_109 (fitK rfl) (ltK rfl) hc0 rfl (leK rfl) (leK rfl) (leK rfl) (tf_Mo_isPrinted hc0 h_p9 e_p36) (kcB ?_)
                refine vg_ior (pc := 181) (dK D_Mo_evictionOf_2 4 rfl) ?_
                refine g_istore (pc := 182) (ls2 := [(6, V (i_or a6 (bi p36))), (3, V v35), (4, V v30), (8, V p9), (0, .ref c0), (1, V a1), (2, V a2), (5, V a5), (7, V a7)]) (dK D_Mo_evictionOf_2 5 rfl) (ltK rfl) rfl ?_
                refine g_goto (pc := 184) (tgt := 205) (dK D_Mo_evictionOf_2 6 rfl) rfl ?_
                refine nmE h (fun v37 e_v37 h => ?_)
                refine vg_iinc (pc := 205) (j := 8) (a := a7) (z := 1) (ls2 := [(7, V v37), (6, V (i_or a6 (bi p36))), (3, V v35), (4, V v30), (8, V p9), (0, .ref c0), (1, V a1), (2, V a2), (5, V a5)]) (dK D_Mo_evictionOf_2 16 rfl) rfl e_v37 (ltK rfl) rfl ?_
                refine g_goto (pc := 208) (tgt := 71) (dK D_Mo_evictionOf_2 17 rfl) rfl ?_
                refine gL_weak (ls' := [(0, .ref c0), (1, V a1), (2, V a2), (3, V v35), (4, V v30), (5, V a5), (6, V (i_or a6 (bi p36))), (7, V v37)]) (sbc 5 rfl (sbc 6 rfl (sbc 7 rfl (sbc 2 rfl (sbc 3 rfl (sbc 8 rfl (sbc 1 rfl (sbc 0 rfl sbn)))))))) ?_
                replace h := ih _ h
                exact h (Vn_in e_v35) (Vn_in e_v30) ha5 (toInt_in _) (Vn_in e_v37)
        · replace h := ifN h hc42
          refine g_goto (pc := 113) (tgt := 205) (dK D_Mo_evictionOf_1 16 rfl) rfl ?_
          refine nmE h (fun v41 e_v41 h => ?_)
          refine vg_iinc (pc := 205) (j := 8) (a := a7) (z := 1) (ls2 := [(7, V v41), (8, V p9), (0, .ref c0), (1, V a1), (2, V a2), (3, V a3), (4, V a4), (5, V a5), (6, V a6)]) (dK D_Mo_evictionOf_2 16 rfl) rfl e_v41 (ltK rfl) rfl ?_
          refine g_goto (pc := 208) (tgt := 71) (dK D_Mo_evictionOf_2 17 rfl) rfl ?_
          refine gL_weak (ls' := [(0, .ref c0), (1, V a1), (2, V a2), (3, V a3), (4, V a4), (5, V a5), (6, V a6), (7, V v41)]) (sbc 2 rfl (sbc 3 rfl (sbc 4 rfl (sbc 5 rfl (sbc 6 rfl (sbc 7 rfl (sbc 8 rfl (sbc 0 rfl sbn)))))))) ?_
          replace h := ih _ h
          exact h ha3 ha4 ha5 ha6 (Vn_in e_v41)
def jf_Mo_evictionOf_36 (c0 : Nat) (a1 : Int) (a2 : Int) (S : St) : Option (Int × St) := bnO (fn_Mo_ofAd c0 a1 3 S) fun p5 => bnO (fn_Mo_isOnSide a2 p5 S) fun p6 => if p6 = true then (bnO (fn_Mo_roomOn c0 a2 a1 (-1) S) fun p8 => bnO (lo_Mo_evictionOf_71 c0 a1 a2 FU (p8, 0, 0, 0, 0, S)) fun p46 => if p46.2.2.2.1 = 0 then (bnO (fn_Mo_ofAd c0 a1 0 p46.2.2.2.2) fun p47 => nm (wr (p47 - p46.1)) fun v48 => bnO (fn_Mo_leastOf c0 p46.2.2.1 v48 p46.2.2.2.2) fun p49 => if p49 = 1000000 then (some ((-1), p46.2.2.2.2)) else (some ((wr (p46.2.1 + p49)), p46.2.2.2.2))) else (some ((-1), p46.2.2.2.2))) else (some ((-1), S))
theorem tj_Mo_evictionOf_36 {E : EV} {X : XT} {c0 : Nat} (hc0 : HC X 11 c0) {a1 : Int} (ha1 : inR a1) {a2 : Int} (ha2 : inR a2) {S : St} {q : Int × St} (h : jf_Mo_evictionOf_36 c0 a1 a2 S = some q) : Go E M_Mo_evictionOf 0 0 36 [(0, .ref c0), (1, V a1), (2, V a2)] [] (WX X S) 0 0 (KI X q.1 q.2) := by
  unfold jf_Mo_evictionOf_36 at h
  refine g_iloadn (pc := 36) (i0 := 2) (j := 2) (dK D_Mo_evictionOf_0 20 rfl) rfl rfl ?_
  refine g_aloadn (pc := 37) (i0 := 0) (j := 0) (dK D_Mo_evictionOf_0 21 rfl) rfl rfl ?_
  refine g_iloadn (pc := 38) (i0 := 1) (j := 1) (dK D_Mo_evictionOf_0 22 rfl) rfl rfl ?_
  refine vg_iconst (pc := 39) (dK D_Mo_evictionOf_0 23 rfl) ?_
  refine bnE h (fun p5 e_p5 h => ?_)
  refine vg_cV (pc := 40) (As := [V a1, V 3]) (rest := [V a2]) (mc' := 0) (ms' := 0) (dK D_Mo_evictionOf_0 24 rfl) K_Mo_82 (fitK rfl) (ltK rfl) hc0 rfl (leK rfl) (leK rfl) (leK rfl) (tf_Mo_ofAd hc0 ha1 (inRk rfl) e_p5) (kcI (fun h_p5 => ?_))
  refine bnE h (fun p6 e_p6 h => ?_)
  refine vg_cS (pc := 43) (As := [V a2, V p5]) (rest := []) (mc' := 0) (ms' := 0) (dK D_Mo_evictionOf_0 25 rfl) K_Mo_115 (fitK rfl) rfl (leK rfl) (leK rfl) (leK rfl) (tf_Mo_isOnSide ha2 h_p5 e_p6) (kcB ?_)
  refine vg_ifB_ne (pc := 46) (b := p6) (t := 51) (dK D_Mo_evictionOf_0 26 rfl) rfl (fun hc7 => ?_) (fun hc7 => ?_)
  · replace h := ifP h hc7
    refine g_aloadn (pc := 51) (i0 := 0) (j := 0) (dK D_Mo_evictionOf_0 29 rfl) rfl rfl ?_
    refine g_iloadn (pc := 52) (i0 := 2) (j := 2) (dK D_Mo_evictionOf_0 30 rfl) rfl rfl ?_
    refine g_iloadn (pc := 53) (i0 := 1) (j := 1) (dK D_Mo_evictionOf_0 31 rfl) rfl rfl ?_
    refine vg_iconst (pc := 54) (dK D_Mo_evictionOf_0 32 rfl) ?_
    refine bnE h (fun p8 e_p8 h => ?_)
    refine vg_cV (pc := 55) (As := [V a2, V a1, V (-1)]) (rest := []) (mc' := 0) (ms' := 0) (dK D_Mo_evictionOf_0 33 rfl) K_Mo_98 (fitK rfl) (ltK rfl) hc0 rfl (leK rfl) (leK rfl) (leK rfl) (tf_Mo_roomOn hc0 ha2 ha1 (inRk rfl) e_p8) (kcI (fun h_p8 => ?_))
    refine g_istoren (pc := 58) (i0 := 3) (ls2 := [(3, V p8), (0, .ref c0), (1, V a1), (2, V a2)]) (dK D_Mo_evictionOf_0 34 rfl) rfl (ltK rfl) rfl ?_
    refine vg_iconst (pc := 59) (dK D_Mo_evictionOf_0 35 rfl) ?_
    refine g_istore (pc := 60) (ls2 := [(4, V 0), (3, V p8), (0, .ref c0), (1, V a1), (2, V a2)]) (dK D_Mo_evictionOf_0 36 rfl) (ltK rfl) rfl ?_
    refine vg_iconst (pc := 62) (dK D_Mo_evictionOf_0 37 rfl) ?_
    refine g_istore (pc := 63) (ls2 := [(5, V 0), (4, V 0), (3, V p8), (0, .ref c0), (1, V a1), (2, V a2)]) (dK D_Mo_evictionOf_0 38 rfl) (ltK rfl) rfl ?_
    refine vg_iconst (pc := 65) (dK D_Mo_evictionOf_0 39 rfl) ?_
    refine g_istore (pc := 66) (ls2 := [(6, V 0), (5, V 0), (4, V 0), (3, V p8), (0, .ref c0), (1, V a1), (2, V a2)]) (dK D_Mo_evictionOf_0 40 rfl) (ltK rfl) rfl ?_
    refine vg_iconst (pc := 68) (dK D_Mo_evictionOf_0 41 rfl) ?_
    refine g_istore (pc := 69) (ls2 := [(7, V 0), (6, V 0), (5, V 0), (4, V 0), (3, V p8), (0, .ref c0), (1, V a1), (2, V a2)]) (dK D_Mo_evictionOf_0 42 rfl) (ltK rfl) rfl ?_
    refine bnE h (fun p46 e_p46 h => ?_)
    refine gL_weak (ls' := [(0, .ref c0), (1, V a1), (2, V a2), (3, V p8), (4, V 0), (5, V 0), (6, V 0), (7, V 0)]) (sbc 5 rfl (sbc 6 rfl (sbc 7 rfl (sbc 4 rfl (sbc 3 rfl (sbc 2 rfl (sbc 1 rfl (sbc 0 rfl sbn)))))))) ?_
    refine tl_Mo_evictionOf_71 hc0 ha1 ha2 (fun hx3_p46 hx4_p46 hx5_p46 hx6_p46 => ?_) FU (p8, 0, 0, 0, 0, S) e_p46 h_p8 (inRk rfl) (inRk rfl) (inRk rfl) (inRk rfl)
    refine g_iload (pc := 211) (j := 5) (dK D_Mo_evictionOf_2 18 rfl) rfl ?_
    refine vg_if_eq (pc := 213) (t := 221) (dK D_Mo_evictionOf_2 19 rfl) rfl hx6_p46 (fun hc51 => ?_) (fun hc51 => ?_)
    · replace h := ifP h hc51
      refine g_aloadn (pc := 221) (i0 := 0) (j := 0) (dK D_Mo_evictionOf_2 22 rfl) rfl rfl ?_
      refine g_iload (pc := 222) (j := 4) (dK D_Mo_evictionOf_2 23 rfl) rfl ?_
      refine g_aloadn (pc := 224) (i0 := 0) (j := 0) (dK D_Mo_evictionOf_2 24 rfl) rfl rfl ?_
      refine g_iloadn (pc := 225) (i0 := 1) (j := 1) (dK D_Mo_evictionOf_2 25 rfl) rfl rfl ?_
      refine vg_iconst (pc := 226) (dK D_Mo_evictionOf_2 26 rfl) ?_
      refine bnE h (fun p47 e_p47 h => ?_)
      refine vg_cV (pc := 227) (As := [V a1, V 0]) (rest := [V p46.2.2.1, .ref c0]) (mc' := 0) (ms' := 0) (dK D_Mo_evictionOf_2 27 rfl) K_Mo_82 (fitK rfl) (ltK rfl) hc0 rfl (leK rfl) (leK rfl) (leK rfl) (tf_Mo_ofAd hc0 ha1 (inRk rfl) e_p47) (kcI (fun h_p47 => ?_))
      refine g_iloadn (pc := 230) (i0 := 3) (j := 2) (dK D_Mo_evictionOf_2 28 rfl) rfl rfl ?_
      refine vg_isub (pc := 231) (dK D_Mo_evictionOf_2 29 rfl) ?_
      refine nmE h (fun v48 e_v48 h => ?_)
      refine gtop e_v48 ?_
      refine bnE h (fun p49 e_p49 h => ?_)
      refine vg_cV (pc := 232) (As := [V p46.2.2.1, V v48]) (rest := []) (mc' := 0) (ms' := 0) (dK D_Mo_evictionOf_2 30 rfl) K_Mo_258 (fitK rfl) (ltK rfl) hc0 rfl (leK rfl) (leK rfl) (leK rfl) (tf_Mo_leastOf hc0 hx5_p46 (Vn_in e_v48) e_p49) (kcI (fun h_p49 => ?_))
      refine g_istore (pc := 235) (ls2 := [(7, V p49), (0, .ref c0), (1, V a1), (3, V p46.1), (4, V p46.2.1), (5, V p46.2.2.1), (6, V p46.2.2.2.1)]) (dK D_Mo_evictionOf_2 31 rfl) (ltK rfl) rfl ?_
      refine g_iload (pc := 237) (j := 0) (dK D_Mo_evictionOf_2 32 rfl) rfl ?_
      refine vg_ldc (pc := 239) (y := 1000000) (dK D_Mo_evictionOf_2 33 rfl) q_1616 rfl ?_
      refine vg_icmp_ne (pc := 241) (t := 248) (dK D_Mo_evictionOf_2 34 rfl) rfl h_p49 (inRk rfl) (fun hc50 => ?_) (fun hc50 => ?_)
      · replace h := ifN h hc50
        refine g_iload (pc := 248) (j := 4) (dK D_Mo_evictionOf_2 37 rfl) rfl ?_
        refine g_iload (pc := 250) (j := 0) (dK D_Mo_evictionOf_2 38 rfl) rfl ?_
        refine vg_iadd (pc := 252) (dK D_Mo_evictionOf_2 39 rfl) ?_
        refine gtop (x := (wr (p46.2.1 + p49))) rfl ?_
        exact vg_iretI (pc := 253) (r := (wr (p46.2.1 + p49))) (dK D_Mo_evictionOf_2 40 rfl) rfl (leK rfl) (leK rfl) (fun _ => rfl) (by obtain rfl := Option.some.inj h; exact ⟨rfl, (wr_in _), rfl⟩)
      · replace h := ifP h hc50
        refine vg_iconst (pc := 244) (dK D_Mo_evictionOf_2 35 rfl) ?_
        refine g_goto (pc := 245) (tgt := 253) (dK D_Mo_evictionOf_2 36 rfl) rfl ?_
        exact vg_iretI (pc := 253) (r := (-1)) (dK D_Mo_evictionOf_2 40 rfl) rfl (leK rfl) (leK rfl) (fun _ => rfl) (by obtain rfl := Option.some.inj h; exact ⟨rfl, (inRk rfl), rfl⟩)
    · replace h := ifN h hc51
      refine vg_ldc (pc := 216) (y := 1000000) (dK D_Mo_evictionOf_2 20 rfl) q_1616 rfl ?_
      refine g_goto (pc := 218) (tgt := 235) (dK D_Mo_evictionOf_2 21 rfl) rfl ?_
      refine g_istore (pc := 235) (ls2 := [(7, V 1000000), (0, .ref c0), (1, V a1), (3, V p46.1), (4, V p46.2.1), (5, V p46.2.2.1), (6, V p46.2.2.2.1)]) (dK D_Mo_evictionOf_2 31 rfl) (ltK rfl) rfl ?_
      refine g_iload (pc := 237) (j := 0) (dK D_Mo_evictionOf_2 32 rfl) rfl ?_
      refine vg_ldc (pc := 239) (y := 1000000) (dK D_Mo_evictionOf_2 33 rfl) q_1616 rfl ?_
      refine vg_icmp_ne (pc := 241) (t := 248) (dK D_Mo_evictionOf_2 34 rfl) rfl (inRk rfl) (inRk rfl) (fun hc => absurd hc (by decide)) (fun _ => ?_)
      refine vg_iconst (pc := 244) (dK D_Mo_evictionOf_2 35 rfl) ?_
      refine g_goto (pc := 245) (tgt := 253) (dK D_Mo_evictionOf_2 36 rfl) rfl ?_
      exact vg_iretI (pc := 253) (r := (-1)) (dK D_Mo_evictionOf_2 40 rfl) rfl (leK rfl) (leK rfl) (fun _ => rfl) (by obtain rfl := Option.some.inj h; exact ⟨rfl, (inRk rfl), rfl⟩)
  · replace h := ifN h hc7
    refine vg_iconst (pc := 49) (dK D_Mo_evictionOf_0 27 rfl) ?_
    exact vg_iretI (pc := 50) (r := (-1)) (dK D_Mo_evictionOf_0 28 rfl) rfl (leK rfl) (leK rfl) (fun _ => rfl) (by obtain rfl := Option.some.inj h; exact ⟨rfl, (inRk rfl), rfl⟩)
def fn_Mo_evictionOf (c0 : Nat) (a1 : Int) (a2 : Int) (S : St) : Option (Int × St) := bnO (fn_Mo_isPrinted c0 a2 S) fun p1 => if p1 = true then (some ((-1), S)) else (bnO (fn_Mo_storyOn c0 a2 (-1) S) fun p3 => if p3 = (-1) then (bnO (fn_Mo_ofAd c0 a1 2 S) fun p4 => if p4 = 1 then (bnO (fn_Mo_hasColor c0 a2 S) fun p52 => if p52 = true then (jf_Mo_evictionOf_36 c0 a1 a2 S) else (some ((-1), S))) else (jf_Mo_evictionOf_36 c0 a1 a2 S)) else (some ((-1), S)))
theorem tf_Mo_evictionOf {E : EV} {X : XT} {c0 : Nat} (hc0 : HC X 11 c0) {a1 : Int} (ha1 : inR a1) {a2 : Int} (ha2 : inR a2) {S : St} {q : Int × St} (h : fn_Mo_evictionOf c0 a1 a2 S = some q) : Ev E M_Mo_evictionOf [.ref c0, V a1, V a2] (WX X S) 0 0 (KI X q.1 q.2) := by
  refine Ev.of pn_Mo rfl (leK rfl) ?_
  show Go E M_Mo_evictionOf 0 0 0 [(0, .ref c0), (1, V a1), (2, V a2)] [] (WX X S) 0 0 (KI X q.1 q.2)
  unfold fn_Mo_evictionOf at h
  refine g_aloadn (pc := 0) (i0 := 0) (j := 0) (dK D_Mo_evictionOf_0 0 rfl) rfl rfl ?_
  refine g_iloadn (pc := 1) (i0 := 2) (j := 2) (dK D_Mo_evictionOf_0 1 rfl) rfl rfl ?_
  refine bnE h (fun p1 e_p1 h => ?_)
  refine vg_cV (pc := 2) (As := [V a2]) (rest := []) (mc' := 0) (ms' := 0) (dK D_Mo_evictionOf_0 2 rfl) K_Mo_109 (fitK rfl) (ltK rfl) hc0 rfl (leK rfl) (leK rfl) (leK rfl) (tf_Mo_isPrinted hc0 ha2 e_p1) (kcB ?_)
  refine vg_ifB_ne (pc := 5) (b := p1) (t := 49) (dK D_Mo_evictionOf_0 3 rfl) rfl (fun hc2 => ?_) (fun hc2 => ?_)
  · replace h := ifP h hc2
    refine vg_iconst (pc := 49) (dK D_Mo_evictionOf_0 27 rfl) ?_
    exact vg_iretI (pc := 50) (r := (-1)) (dK D_Mo_evictionOf_0 28 rfl) rfl (leK rfl) (leK rfl) (fun _ => rfl) (by obtain rfl := Option.some.inj h; exact ⟨rfl, (inRk rfl), rfl⟩)
  · replace h := ifN h hc2
    refine g_aloadn (pc := 8) (i0 := 0) (j := 0) (dK D_Mo_evictionOf_0 4 rfl) rfl rfl ?_
    refine g_iloadn (pc := 9) (i0 := 2) (j := 2) (dK D_Mo_evictionOf_0 5 rfl) rfl rfl ?_
    refine vg_iconst (pc := 10) (dK D_Mo_evictionOf_0 6 rfl) ?_
    refine bnE h (fun p3 e_p3 h => ?_)
    refine vg_cV (pc := 11) (As := [V a2, V (-1)]) (rest := []) (mc' := 0) (ms' := 0) (dK D_Mo_evictionOf_0 7 rfl) K_Mo_95 (fitK rfl) (ltK rfl) hc0 rfl (leK rfl) (leK rfl) (leK rfl) (tf_Mo_storyOn hc0 ha2 (inRk rfl) e_p3) (kcI (fun h_p3 => ?_))
    refine vg_iconst (pc := 14) (dK D_Mo_evictionOf_0 8 rfl) ?_
    refine vg_icmp_ne (pc := 15) (t := 49) (dK D_Mo_evictionOf_0 9 rfl) rfl h_p3 (inRk rfl) (fun hc55 => ?_) (fun hc55 => ?_)
    · replace h := ifN h hc55
      refine vg_iconst (pc := 49) (dK D_Mo_evictionOf_0 27 rfl) ?_
      exact vg_iretI (pc := 50) (r := (-1)) (dK D_Mo_evictionOf_0 28 rfl) rfl (leK rfl) (leK rfl) (fun _ => rfl) (by obtain rfl := Option.some.inj h; exact ⟨rfl, (inRk rfl), rfl⟩)
    · replace h := ifP h hc55
      refine g_aloadn (pc := 18) (i0 := 0) (j := 0) (dK D_Mo_evictionOf_0 10 rfl) rfl rfl ?_
      refine g_iloadn (pc := 19) (i0 := 1) (j := 1) (dK D_Mo_evictionOf_0 11 rfl) rfl rfl ?_
      refine vg_iconst (pc := 20) (dK D_Mo_evictionOf_0 12 rfl) ?_
      refine bnE h (fun p4 e_p4 h => ?_)
      refine vg_cV (pc := 21) (As := [V a1, V 2]) (rest := []) (mc' := 0) (ms' := 0) (dK D_Mo_evictionOf_0 13 rfl) K_Mo_82 (fitK rfl) (ltK rfl) hc0 rfl (leK rfl) (leK rfl) (leK rfl) (tf_Mo_ofAd hc0 ha1 (inRk rfl) e_p4) (kcI (fun h_p4 => ?_))
      refine vg_iconst (pc := 24) (dK D_Mo_evictionOf_0 14 rfl) ?_
      refine vg_icmp_ne (pc := 25) (t := 36) (dK D_Mo_evictionOf_0 15 rfl) rfl h_p4 (inRk rfl) (fun hc54 => ?_) (fun hc54 => ?_)
      · replace h := ifN h hc54
        exact tj_Mo_evictionOf_36 hc0 ha1 ha2 h
      · replace h := ifP h hc54
        refine g_aloadn (pc := 28) (i0 := 0) (j := 0) (dK D_Mo_evictionOf_0 16 rfl) rfl rfl ?_
        refine g_iloadn (pc := 29) (i0 := 2) (j := 2) (dK D_Mo_evictionOf_0 17 rfl) rfl rfl ?_
        refine bnE h (fun p52 e_p52 h => ?_)
        refine vg_cV (pc := 30) (As := [V a2]) (rest := []) (mc' := 0) (ms' := 0) (dK D_Mo_evictionOf_0 18 rfl) K_Mo_112 (fitK rfl) (ltK rfl) hc0 rfl (leK rfl) (leK rfl) (leK rfl) (tf_Mo_hasColor hc0 ha2 e_p52) (kcB ?_)
        refine vg_ifB_eq (pc := 33) (b := p52) (t := 49) (dK D_Mo_evictionOf_0 19 rfl) rfl (fun hc53 => ?_) (fun hc53 => ?_)
        · replace h := ifP h hc53
          exact tj_Mo_evictionOf_36 hc0 ha1 ha2 h
        · replace h := ifN h hc53
          refine vg_iconst (pc := 49) (dK D_Mo_evictionOf_0 27 rfl) ?_
          exact vg_iretI (pc := 50) (r := (-1)) (dK D_Mo_evictionOf_0 28 rfl) rfl (leK rfl) (leK rfl) (fun _ => rfl) (by obtain rfl := Option.some.inj h; exact ⟨rfl, (inRk rfl), rfl⟩)
def fn_Mo_eviction (c0 : Nat) (a1 : Int) (a2 : Int) (S : St) : Option (Int × St) := nm (u S c0 4 0) fun S1 => bnO (fn_Mo_isAd c0 a1 S1) fun p2 => if p2 = true then (bnO (fn_Mo_isPage c0 a2 S1) fun p7 => if p7 = true then (bnO (fn_Mo_throwsIf c0 0 1 S1) fun p9 => if p9.1 = true then (some (0, p9.2)) else (bnO (fn_Mo_evictionOf c0 a1 a2 p9.2) fun p11 => some (p11.1, p11.2))) else (bnO (fn_Mo_throwsIf c0 1 1 S1) fun p12 => if p12.1 = true then (some (0, p12.2)) else (bnO (fn_Mo_evictionOf c0 a1 a2 p12.2) fun p14 => some (p14.1, p14.2)))) else (bnO (fn_Mo_throwsIf c0 1 1 S1) fun p4 => if p4.1 = true then (some (0, p4.2)) else (bnO (fn_Mo_evictionOf c0 a1 a2 p4.2) fun p6 => some (p6.1, p6.2)))
theorem tf_Mo_eviction {E : EV} {X : XT} {c0 : Nat} (hc0 : HC X 11 c0) {a1 : Int} (ha1 : inR a1) {a2 : Int} (ha2 : inR a2) {S : St} {q : Int × St} (h : fn_Mo_eviction c0 a1 a2 S = some q) : Ev E M_Mo_eviction [.ref c0, V a1, V a2] (WX X S) 0 0 (KI X q.1 q.2) := by
  refine Ev.of pn_Mo rfl (leK rfl) ?_
  show Go E M_Mo_eviction 0 0 0 [(0, .ref c0), (1, V a1), (2, V a2)] [] (WX X S) 0 0 (KI X q.1 q.2)
  unfold fn_Mo_eviction at h
  refine g_aloadn (pc := 0) (i0 := 0) (j := 0) (dK D_Mo_eviction 0 rfl) rfl rfl ?_
  refine vg_iconst (pc := 1) (dK D_Mo_eviction 1 rfl) ?_
  refine nmE h (fun S1 e_S1 h => ?_)
  refine vg_putI (pc := 2) (ci := 11) (f := 4) (z := 0) (dK D_Mo_eviction 2 rfl) q_1446 hc0 (ltK rfl) (ltK rfl) rfl rfl e_S1 ?_
  refine g_aloadn (pc := 5) (i0 := 0) (j := 0) (dK D_Mo_eviction 3 rfl) rfl rfl ?_
  refine g_aloadn (pc := 6) (i0 := 0) (j := 0) (dK D_Mo_eviction 4 rfl) rfl rfl ?_
  refine g_iloadn (pc := 7) (i0 := 1) (j := 1) (dK D_Mo_eviction 5 rfl) rfl rfl ?_
  refine bnE h (fun p2 e_p2 h => ?_)
  refine vg_cV (pc := 8) (As := [V a1]) (rest := [.ref c0]) (mc' := 0) (ms' := 0) (dK D_Mo_eviction 6 rfl) K_Mo_122 (fitK rfl) (ltK rfl) hc0 rfl (leK rfl) (leK rfl) (leK rfl) (tf_Mo_isAd hc0 ha1 e_p2) (kcB ?_)
  refine vg_ifB_eq (pc := 11) (b := p2) (t := 22) (dK D_Mo_eviction 7 rfl) rfl (fun hc3 => ?_) (fun hc3 => ?_)
  · replace h := ifP h hc3
    refine g_aloadn (pc := 14) (i0 := 0) (j := 0) (dK D_Mo_eviction 8 rfl) rfl rfl ?_
    refine g_iloadn (pc := 15) (i0 := 2) (j := 2) (dK D_Mo_eviction 9 rfl) rfl rfl ?_
    refine bnE h (fun p7 e_p7 h => ?_)
    refine vg_cV (pc := 16) (As := [V a2]) (rest := [.ref c0]) (mc' := 0) (ms' := 0) (dK D_Mo_eviction 10 rfl) K_Mo_105 (fitK rfl) (ltK rfl) hc0 rfl (leK rfl) (leK rfl) (leK rfl) (tf_Mo_isPage hc0 ha2 e_p7) (kcB ?_)
    refine vg_ifB_ne (pc := 19) (b := p7) (t := 26) (dK D_Mo_eviction 11 rfl) rfl (fun hc8 => ?_) (fun hc8 => ?_)
    · replace h := ifP h hc8
      refine vg_iconst (pc := 26) (dK D_Mo_eviction 14 rfl) ?_
      refine vg_iconst (pc := 27) (dK D_Mo_eviction 15 rfl) ?_
      refine bnE h (fun p9 e_p9 h => ?_)
      refine vg_cV (pc := 28) (As := [V 0, V 1]) (rest := []) (mc' := 0) (ms' := 0) (dK D_Mo_eviction 16 rfl) K_Mo_125 (fitK rfl) (ltK rfl) hc0 rfl (leK rfl) (leK rfl) (leK rfl) (tf_Mo_throwsIf hc0 (inRk rfl) (inRk rfl) e_p9) (kcB ?_)
      refine vg_ifB_eq (pc := 31) (b := p9.1) (t := 38) (dK D_Mo_eviction 17 rfl) rfl (fun hc10 => ?_) (fun hc10 => ?_)
      · replace h := ifP h hc10
        refine vg_iconst (pc := 34) (dK D_Mo_eviction 18 rfl) ?_
        refine g_goto (pc := 35) (tgt := 44) (dK D_Mo_eviction 19 rfl) rfl ?_
        exact vg_iretI (pc := 44) (r := 0) (dK D_Mo_eviction 24 rfl) rfl (leK rfl) (leK rfl) (fun _ => rfl) (by obtain rfl := Option.some.inj h; exact ⟨rfl, (inRk rfl), rfl⟩)
      · replace h := ifN h hc10
        refine g_aloadn (pc := 38) (i0 := 0) (j := 0) (dK D_Mo_eviction 20 rfl) rfl rfl ?_
        refine g_iloadn (pc := 39) (i0 := 1) (j := 1) (dK D_Mo_eviction 21 rfl) rfl rfl ?_
        refine g_iloadn (pc := 40) (i0 := 2) (j := 2) (dK D_Mo_eviction 22 rfl) rfl rfl ?_
        refine bnE h (fun p11 e_p11 h => ?_)
        refine vg_cV (pc := 41) (As := [V a1, V a2]) (rest := []) (mc' := 0) (ms' := 0) (dK D_Mo_eviction 23 rfl) K_Mo_261 (fitK rfl) (ltK rfl) hc0 rfl (leK rfl) (leK rfl) (leK rfl) (tf_Mo_evictionOf hc0 ha1 ha2 e_p11) (kcI (fun h_p11 => ?_))
        exact vg_iretI (pc := 44) (r := p11.1) (dK D_Mo_eviction 24 rfl) rfl (leK rfl) (leK rfl) (fun _ => rfl) (by obtain rfl := Option.some.inj h; exact ⟨rfl, h_p11, rfl⟩)
    · replace h := ifN h hc8
      refine vg_iconst (pc := 22) (dK D_Mo_eviction 12 rfl) ?_
      refine g_goto (pc := 23) (tgt := 27) (dK D_Mo_eviction 13 rfl) rfl ?_
      refine vg_iconst (pc := 27) (dK D_Mo_eviction 15 rfl) ?_
      refine bnE h (fun p12 e_p12 h => ?_)
      refine vg_cV (pc := 28) (As := [V 1, V 1]) (rest := []) (mc' := 0) (ms' := 0) (dK D_Mo_eviction 16 rfl) K_Mo_125 (fitK rfl) (ltK rfl) hc0 rfl (leK rfl) (leK rfl) (leK rfl) (tf_Mo_throwsIf hc0 (inRk rfl) (inRk rfl) e_p12) (kcB ?_)
      refine vg_ifB_eq (pc := 31) (b := p12.1) (t := 38) (dK D_Mo_eviction 17 rfl) rfl (fun hc13 => ?_) (fun hc13 => ?_)
      · replace h := ifP h hc13
        refine vg_iconst (pc := 34) (dK D_Mo_eviction 18 rfl) ?_
        refine g_goto (pc := 35) (tgt := 44) (dK D_Mo_eviction 19 rfl) rfl ?_
        exact vg_iretI (pc := 44) (r := 0) (dK D_Mo_eviction 24 rfl) rfl (leK rfl) (leK rfl) (fun _ => rfl) (by obtain rfl := Option.some.inj h; exact ⟨rfl, (inRk rfl), rfl⟩)
      · replace h := ifN h hc13
        refine g_aloadn (pc := 38) (i0 := 0) (j := 0) (dK D_Mo_eviction 20 rfl) rfl rfl ?_
        refine g_iloadn (pc := 39) (i0 := 1) (j := 1) (dK D_Mo_eviction 21 rfl) rfl rfl ?_
        refine g_iloadn (pc := 40) (i0 := 2) (j := 2) (dK D_Mo_eviction 22 rfl) rfl rfl ?_
        refine bnE h (fun p14 e_p14 h => ?_)
        refine vg_cV (pc := 41) (As := [V a1, V a2]) (rest := []) (mc' := 0) (ms' := 0) (dK D_Mo_eviction 23 rfl) K_Mo_261 (fitK rfl) (ltK rfl) hc0 rfl (leK rfl) (leK rfl) (leK rfl) (tf_Mo_evictionOf hc0 ha1 ha2 e_p14) (kcI (fun h_p14 => ?_))
        exact vg_iretI (pc := 44) (r := p14.1) (dK D_Mo_eviction 24 rfl) rfl (leK rfl) (leK rfl) (fun _ => rfl) (by obtain rfl := Option.some.inj h; exact ⟨rfl, h_p14, rfl⟩)
  · replace h := ifN h hc3
    refine vg_iconst (pc := 22) (dK D_Mo_eviction 12 rfl) ?_
    refine g_goto (pc := 23) (tgt := 27) (dK D_Mo_eviction 13 rfl) rfl ?_
    refine vg_iconst (pc := 27) (dK D_Mo_eviction 15 rfl) ?_
    refine bnE h (fun p4 e_p4 h => ?_)
    refine vg_cV (pc := 28) (As := [V 1, V 1]) (rest := []) (mc' := 0) (ms' := 0) (dK D_Mo_eviction 16 rfl) K_Mo_125 (fitK rfl) (ltK rfl) hc0 rfl (leK rfl) (leK rfl) (leK rfl) (tf_Mo_throwsIf hc0 (inRk rfl) (inRk rfl) e_p4) (kcB ?_)
    refine vg_ifB_eq (pc := 31) (b := p4.1) (t := 38) (dK D_Mo_eviction 17 rfl) rfl (fun hc5 => ?_) (fun hc5 => ?_)
    · replace h := ifP h hc5
      refine vg_iconst (pc := 34) (dK D_Mo_eviction 18 rfl) ?_
      refine g_goto (pc := 35) (tgt := 44) (dK D_Mo_eviction 19 rfl) rfl ?_
      exact vg_iretI (pc := 44) (r := 0) (dK D_Mo_eviction 24 rfl) rfl (leK rfl) (leK rfl) (fun _ => rfl) (by obtain rfl := Option.some.inj h; exact ⟨rfl, (inRk rfl), rfl⟩)
    · replace h := ifN h hc5
      refine g_aloadn (pc := 38) (i0 := 0) (j := 0) (dK D_Mo_eviction 20 rfl) rfl rfl ?_
      refine g_iloadn (pc := 39) (i0 := 1) (j := 1) (dK D_Mo_eviction 21 rfl) rfl rfl ?_
      refine g_iloadn (pc := 40) (i0 := 2) (j := 2) (dK D_Mo_eviction 22 rfl) rfl rfl ?_
      refine bnE h (fun p6 e_p6 h => ?_)
      refine vg_cV (pc := 41) (As := [V a1, V a2]) (rest := []) (mc' := 0) (ms' := 0) (dK D_Mo_eviction 23 rfl) K_Mo_261 (fitK rfl) (ltK rfl) hc0 rfl (leK rfl) (leK rfl) (leK rfl) (tf_Mo_evictionOf hc0 ha1 ha2 e_p6) (kcI (fun h_p6 => ?_))
      exact vg_iretI (pc := 44) (r := p6.1) (dK D_Mo_eviction 24 rfl) rfl (leK rfl) (leK rfl) (fun _ => rfl) (by obtain rfl := Option.some.inj h; exact ⟨rfl, h_p6, rfl⟩)
def lb_Mo_cheapestPage_36 (c0 : Nat) (a1 : Int) (go : Int × Int × Int × St → Option (Int × St)) (a2 : Int) (a3 : Int) (a4 : Int) (S : St) : Option (Int × St) := bnO (fn_Mo_pageMany c0 S) fun p6 => if p6 < a4 then (some (a2, S)) else (bnO (fn_Mo_evictionOf c0 a1 a4 S) fun p7 => if p7.1 = (-1) then (nm (wr (a4 + 1)) fun v8 => go (a2, a3, v8, p7.2)) else (if p7.1 < a3 then (nm (wr (a4 + 1)) fun v9 => go (a4, p7.1, v9, p7.2)) else (nm (wr (a4 + 1)) fun v10 => go (a2, a3, v10, p7.2))))
def lo_Mo_cheapestPage_36 (c0 : Nat) (a1 : Int) : Nat → Int × Int × Int × St → Option (Int × St) := lp fun go p => lb_Mo_cheapestPage_36 c0 a1 go p.1 p.2.1 p.2.2.1 p.2.2.2
theorem tl_Mo_cheapestPage_36 {E : EV} {X : XT} {c0 : Nat} (hc0 : HC X 11 c0) {a1 : Int} (ha1 : inR a1) {K : RK → PS → Prop} {q : Int × St} (hx : inR q.1 → Go E M_Mo_cheapestPage 0 0 81 [(2, V q.1)] [] (WX X q.2) 0 0 K) : ∀ n a, lo_Mo_cheapestPage_36 c0 a1 n a = some q → inR a.1 → inR a.2.1 → inR a.2.2.1 → Go E M_Mo_cheapestPage 0 0 36 [(0, .ref c0), (1, V a1), (2, V a.1), (3, V a.2.1), (4, V a.2.2.1)] [] (WX X a.2.2.2) 0 0 K := by
  refine lp_ind (P := fun a : Int × Int × Int × St => inR a.1 → inR a.2.1 → inR a.2.2.1 → Go E M_Mo_cheapestPage 0 0 36 [(0, .ref c0), (1, V a1), (2, V a.1), (3, V a.2.1), (4, V a.2.2.1)] [] (WX X a.2.2.2) 0 0 K) (fun go ih a h => ?_)
  obtain ⟨a2, a3, a4, S⟩ := a
  intro ha2 ha3 ha4
  show Go E M_Mo_cheapestPage 0 0 36 [(0, .ref c0), (1, V a1), (2, V a2), (3, V a3), (4, V a4)] [] (WX X S) 0 0 K
  replace h : lb_Mo_cheapestPage_36 c0 a1 go a2 a3 a4 S = some q := h
  unfold lb_Mo_cheapestPage_36 at h
  refine g_iload (pc := 36) (j := 4) (dK D_Mo_cheapestPage 22 rfl) rfl ?_
  refine g_aloadn (pc := 38) (i0 := 0) (j := 0) (dK D_Mo_cheapestPage 23 rfl) rfl rfl ?_
  refine bnE h (fun p6 e_p6 h => ?_)
  refine vg_cV (pc := 39) (As := []) (rest := [V a4]) (mc' := 0) (ms' := 0) (dK D_Mo_cheapestPage 24 rfl) K_Mo_63 (fitK rfl) (ltK rfl) hc0 rfl (leK rfl) (leK rfl) (leK rfl) (tf_Mo_pageMany hc0 e_p6) (kcI (fun h_p6 => ?_))
  refine vg_icmp_gt (pc := 42) (t := 81) (dK D_Mo_cheapestPage 25 rfl) rfl ha4 h_p6 (fun hc13 => ?_) (fun hc13 => ?_)
  · replace h := ifP h hc13
    obtain rfl := Option.some.inj h
    refine gL_weak (ls' := [(2, V a2)]) (sbc 2 rfl sbn) ?_
    exact hx ha2
  · replace h := ifN h hc13
    refine g_aloadn (pc := 45) (i0 := 0) (j := 0) (dK D_Mo_cheapestPage 26 rfl) rfl rfl ?_
    refine g_iloadn (pc := 46) (i0 := 1) (j := 1) (dK D_Mo_cheapestPage 27 rfl) rfl rfl ?_
    refine g_iload (pc := 47) (j := 4) (dK D_Mo_cheapestPage 28 rfl) rfl ?_
    refine bnE h (fun p7 e_p7 h => ?_)
    refine vg_cV (pc := 49) (As := [V a1, V a4]) (rest := []) (mc' := 0) (ms' := 0) (dK D_Mo_cheapestPage 29 rfl) K_Mo_261 (fitK rfl) (ltK rfl) hc0 rfl (leK rfl) (leK rfl) (leK rfl) (tf_Mo_evictionOf hc0 ha1 ha4 e_p7) (kcI (fun h_p7 => ?_))
    refine g_istore (pc := 52) (ls2 := [(5, V p7.1), (0, .ref c0), (1, V a1), (2, V a2), (3, V a3), (4, V a4)]) (dK D_Mo_cheapestPage 30 rfl) (ltK rfl) rfl ?_
    refine g_iload (pc := 54) (j := 0) (dK D_Mo_cheapestPage 31 rfl) rfl ?_
    refine vg_iconst (pc := 56) (dK D_Mo_cheapestPage 32 rfl) ?_
    refine vg_icmp_eq (pc := 57) (t := 75) (dK D_Mo_cheapestPage 33 rfl) rfl h_p7 (inRk rfl) (fun hc12 => ?_) (fun hc12 => ?_)
    · replace h := ifP h hc12
      refine nmE h (fun v8 e_v8 h => ?_)
      refine vg_iinc (pc := 75) (j := 5) (a := a4) (z := 1) (ls2 := [(4, V v8), (5, V p7.1), (0, .ref c0), (1, V a1), (2, V a2), (3, V a3)]) (dK D_Mo_cheapestPage 42 rfl) rfl e_v8 (ltK rfl) rfl ?_
      refine g_goto (pc := 78) (tgt := 36) (dK D_Mo_cheapestPage 43 rfl) rfl ?_
      refine gL_weak (ls' := [(0, .ref c0), (1, V a1), (2, V a2), (3, V a3), (4, V v8)]) (sbc 2 rfl (sbc 3 rfl (sbc 4 rfl (sbc 5 rfl (sbc 0 rfl sbn))))) ?_
      replace h := ih _ h
      exact h ha2 ha3 (Vn_in e_v8)
    · replace h := ifN h hc12
      refine g_iload (pc := 60) (j := 0) (dK D_Mo_cheapestPage 34 rfl) rfl ?_
      refine g_iloadn (pc := 62) (i0 := 3) (j := 4) (dK D_Mo_cheapestPage 35 rfl) rfl rfl ?_
      refine vg_icmp_lt (pc := 63) (t := 69) (dK D_Mo_cheapestPage 36 rfl) rfl h_p7 ha3 (fun hc11 => ?_) (fun hc11 => ?_)
      · replace h := ifP h hc11
        refine g_iload (pc := 69) (j := 5) (dK D_Mo_cheapestPage 38 rfl) rfl ?_
        refine g_istoren (pc := 71) (i0 := 2) (ls2 := [(2, V a4), (5, V p7.1), (0, .ref c0), (1, V a1), (3, V a3), (4, V a4)]) (dK D_Mo_cheapestPage 39 rfl) rfl (ltK rfl) rfl ?_
        refine g_iload (pc := 72) (j := 1) (dK D_Mo_cheapestPage 40 rfl) rfl ?_
        refine g_istoren (pc := 74) (i0 := 3) (ls2 := [(3, V p7.1), (2, V a4), (5, V p7.1), (0, .ref c0), (1, V a1), (4, V a4)]) (dK D_Mo_cheapestPage 41 rfl) rfl (ltK rfl) rfl ?_
        refine nmE h (fun v9 e_v9 h => ?_)
        refine vg_iinc (pc := 75) (j := 5) (a := a4) (z := 1) (ls2 := [(4, V v9), (3, V p7.1), (2, V a4), (5, V p7.1), (0, .ref c0), (1, V a1)]) (dK D_Mo_cheapestPage 42 rfl) rfl e_v9 (ltK rfl) rfl ?_
        refine g_goto (pc := 78) (tgt := 36) (dK D_Mo_cheapestPage 43 rfl) rfl ?_
        refine gL_weak (ls' := [(0, .ref c0), (1, V a1), (2, V a4), (3, V p7.1), (4, V v9)]) (sbc 4 rfl (sbc 5 rfl (sbc 2 rfl (sbc 1 rfl (sbc 0 rfl sbn))))) ?_
        replace h := ih _ h
        exact h ha4 h_p7 (Vn_in e_v9)
      · replace h := ifN h hc11
        refine g_goto (pc := 66) (tgt := 75) (dK D_Mo_cheapestPage 37 rfl) rfl ?_
        refine nmE h (fun v10 e_v10 h => ?_)
        refine vg_iinc (pc := 75) (j := 5) (a := a4) (z := 1) (ls2 := [(4, V v10), (5, V p7.1), (0, .ref c0), (1, V a1), (2, V a2), (3, V a3)]) (dK D_Mo_cheapestPage 42 rfl) rfl e_v10 (ltK rfl) rfl ?_
        refine g_goto (pc := 78) (tgt := 36) (dK D_Mo_cheapestPage 43 rfl) rfl ?_
        refine gL_weak (ls' := [(0, .ref c0), (1, V a1), (2, V a2), (3, V a3), (4, V v10)]) (sbc 2 rfl (sbc 3 rfl (sbc 4 rfl (sbc 5 rfl (sbc 0 rfl sbn))))) ?_
        replace h := ih _ h
        exact h ha2 ha3 (Vn_in e_v10)
def fn_Mo_cheapestPage (c0 : Nat) (a1 : Int) (S : St) : Option (Int × St) := nm (u S c0 4 0) fun S1 => bnO (fn_Mo_isAd c0 a1 S1) fun p2 => if p2 = true then (bnO (fn_Mo_throwsIf c0 0 1 S1) fun p4 => if p4.1 = true then (some (0, p4.2)) else (bnO (lo_Mo_cheapestPage_36 c0 a1 FU ((-1), 1000000, 1, p4.2)) fun p14 => some (p14.1, p14.2))) else (bnO (fn_Mo_throwsIf c0 1 1 S1) fun p15 => if p15.1 = true then (some (0, p15.2)) else (bnO (lo_Mo_cheapestPage_36 c0 a1 FU ((-1), 1000000, 1, p15.2)) fun p17 => some (p17.1, p17.2)))
theorem tf_Mo_cheapestPage {E : EV} {X : XT} {c0 : Nat} (hc0 : HC X 11 c0) {a1 : Int} (ha1 : inR a1) {S : St} {q : Int × St} (h : fn_Mo_cheapestPage c0 a1 S = some q) : Ev E M_Mo_cheapestPage [.ref c0, V a1] (WX X S) 0 0 (KI X q.1 q.2) := by
  refine Ev.of pn_Mo rfl (leK rfl) ?_
  show Go E M_Mo_cheapestPage 0 0 0 [(0, .ref c0), (1, V a1)] [] (WX X S) 0 0 (KI X q.1 q.2)
  unfold fn_Mo_cheapestPage at h
  refine g_aloadn (pc := 0) (i0 := 0) (j := 0) (dK D_Mo_cheapestPage 0 rfl) rfl rfl ?_
  refine vg_iconst (pc := 1) (dK D_Mo_cheapestPage 1 rfl) ?_
  refine nmE h (fun S1 e_S1 h => ?_)
  refine vg_putI (pc := 2) (ci := 11) (f := 4) (z := 0) (dK D_Mo_cheapestPage 2 rfl) q_1446 hc0 (ltK rfl) (ltK rfl) rfl rfl e_S1 ?_
  refine g_aloadn (pc := 5) (i0 := 0) (j := 0) (dK D_Mo_cheapestPage 3 rfl) rfl rfl ?_
  refine g_aloadn (pc := 6) (i0 := 0) (j := 0) (dK D_Mo_cheapestPage 4 rfl) rfl rfl ?_
  refine g_iloadn (pc := 7) (i0 := 1) (j := 1) (dK D_Mo_cheapestPage 5 rfl) rfl rfl ?_
  refine bnE h (fun p2 e_p2 h => ?_)
  refine vg_cV (pc := 8) (As := [V a1]) (rest := [.ref c0]) (mc' := 0) (ms' := 0) (dK D_Mo_cheapestPage 6 rfl) K_Mo_122 (fitK rfl) (ltK rfl) hc0 rfl (leK rfl) (leK rfl) (leK rfl) (tf_Mo_isAd hc0 ha1 e_p2) (kcB ?_)
  refine vg_ifB_ne (pc := 11) (b := p2) (t := 18) (dK D_Mo_cheapestPage 7 rfl) rfl (fun hc3 => ?_) (fun hc3 => ?_)
  · replace h := ifP h hc3
    refine vg_iconst (pc := 18) (dK D_Mo_cheapestPage 10 rfl) ?_
    refine vg_iconst (pc := 19) (dK D_Mo_cheapestPage 11 rfl) ?_
    refine bnE h (fun p4 e_p4 h => ?_)
    refine vg_cV (pc := 20) (As := [V 0, V 1]) (rest := []) (mc' := 0) (ms' := 0) (dK D_Mo_cheapestPage 12 rfl) K_Mo_125 (fitK rfl) (ltK rfl) hc0 rfl (leK rfl) (leK rfl) (leK rfl) (tf_Mo_throwsIf hc0 (inRk rfl) (inRk rfl) e_p4) (kcB ?_)
    refine vg_ifB_eq (pc := 23) (b := p4.1) (t := 28) (dK D_Mo_cheapestPage 13 rfl) rfl (fun hc5 => ?_) (fun hc5 => ?_)
    · replace h := ifP h hc5
      refine vg_iconst (pc := 26) (dK D_Mo_cheapestPage 14 rfl) ?_
      exact vg_iretI (pc := 27) (r := 0) (dK D_Mo_cheapestPage 15 rfl) rfl (leK rfl) (leK rfl) (fun _ => rfl) (by obtain rfl := Option.some.inj h; exact ⟨rfl, (inRk rfl), rfl⟩)
    · replace h := ifN h hc5
      refine vg_iconst (pc := 28) (dK D_Mo_cheapestPage 16 rfl) ?_
      refine g_istoren (pc := 29) (i0 := 2) (ls2 := [(2, V (-1)), (0, .ref c0), (1, V a1)]) (dK D_Mo_cheapestPage 17 rfl) rfl (ltK rfl) rfl ?_
      refine vg_ldc (pc := 30) (y := 1000000) (dK D_Mo_cheapestPage 18 rfl) q_1616 rfl ?_
      refine g_istoren (pc := 32) (i0 := 3) (ls2 := [(3, V 1000000), (2, V (-1)), (0, .ref c0), (1, V a1)]) (dK D_Mo_cheapestPage 19 rfl) rfl (ltK rfl) rfl ?_
      refine vg_iconst (pc := 33) (dK D_Mo_cheapestPage 20 rfl) ?_
      refine g_istore (pc := 34) (ls2 := [(4, V 1), (3, V 1000000), (2, V (-1)), (0, .ref c0), (1, V a1)]) (dK D_Mo_cheapestPage 21 rfl) (ltK rfl) rfl ?_
      refine bnE h (fun p14 e_p14 h => ?_)
      refine gL_weak (ls' := [(0, .ref c0), (1, V a1), (2, V (-1)), (3, V 1000000), (4, V 1)]) (sbc 3 rfl (sbc 4 rfl (sbc 2 rfl (sbc 1 rfl (sbc 0 rfl sbn))))) ?_
      refine tl_Mo_cheapestPage_36 hc0 ha1 (fun hx2_p14 => ?_) FU ((-1), 1000000, 1, p4.2) e_p14 (inRk rfl) (inRk rfl) (inRk rfl)
      refine g_iloadn (pc := 81) (i0 := 2) (j := 0) (dK D_Mo_cheapestPage 44 rfl) rfl rfl ?_
      exact vg_iretI (pc := 82) (r := p14.1) (dK D_Mo_cheapestPage 45 rfl) rfl (leK rfl) (leK rfl) (fun _ => rfl) (by obtain rfl := Option.some.inj h; exact ⟨rfl, hx2_p14, rfl⟩)
  · replace h := ifN h hc3
    refine vg_iconst (pc := 14) (dK D_Mo_cheapestPage 8 rfl) ?_
    refine g_goto (pc := 15) (tgt := 19) (dK D_Mo_cheapestPage 9 rfl) rfl ?_
    refine vg_iconst (pc := 19) (dK D_Mo_cheapestPage 11 rfl) ?_
    refine bnE h (fun p15 e_p15 h => ?_)
    refine vg_cV (pc := 20) (As := [V 1, V 1]) (rest := []) (mc' := 0) (ms' := 0) (dK D_Mo_cheapestPage 12 rfl) K_Mo_125 (fitK rfl) (ltK rfl) hc0 rfl (leK rfl) (leK rfl) (leK rfl) (tf_Mo_throwsIf hc0 (inRk rfl) (inRk rfl) e_p15) (kcB ?_)
    refine vg_ifB_eq (pc := 23) (b := p15.1) (t := 28) (dK D_Mo_cheapestPage 13 rfl) rfl (fun hc16 => ?_) (fun hc16 => ?_)
    · replace h := ifP h hc16
      refine vg_iconst (pc := 26) (dK D_Mo_cheapestPage 14 rfl) ?_
      exact vg_iretI (pc := 27) (r := 0) (dK D_Mo_cheapestPage 15 rfl) rfl (leK rfl) (leK rfl) (fun _ => rfl) (by obtain rfl := Option.some.inj h; exact ⟨rfl, (inRk rfl), rfl⟩)
    · replace h := ifN h hc16
      refine vg_iconst (pc := 28) (dK D_Mo_cheapestPage 16 rfl) ?_
      refine g_istoren (pc := 29) (i0 := 2) (ls2 := [(2, V (-1)), (0, .ref c0), (1, V a1)]) (dK D_Mo_cheapestPage 17 rfl) rfl (ltK rfl) rfl ?_
      refine vg_ldc (pc := 30) (y := 1000000) (dK D_Mo_cheapestPage 18 rfl) q_1616 rfl ?_
      refine g_istoren (pc := 32) (i0 := 3) (ls2 := [(3, V 1000000), (2, V (-1)), (0, .ref c0), (1, V a1)]) (dK D_Mo_cheapestPage 19 rfl) rfl (ltK rfl) rfl ?_
      refine vg_iconst (pc := 33) (dK D_Mo_cheapestPage 20 rfl) ?_
      refine g_istore (pc := 34) (ls2 := [(4, V 1), (3, V 1000000), (2, V (-1)), (0, .ref c0), (1, V a1)]) (dK D_Mo_cheapestPage 21 rfl) (ltK rfl) rfl ?_
      refine bnE h (fun p17 e_p17 h => ?_)
      refine gL_weak (ls' := [(0, .ref c0), (1, V a1), (2, V (-1)), (3, V 1000000), (4, V 1)]) (sbc 3 rfl (sbc 4 rfl (sbc 2 rfl (sbc 1 rfl (sbc 0 rfl sbn))))) ?_
      refine tl_Mo_cheapestPage_36 hc0 ha1 (fun hx2_p17 => ?_) FU ((-1), 1000000, 1, p15.2) e_p17 (inRk rfl) (inRk rfl) (inRk rfl)
      refine g_iloadn (pc := 81) (i0 := 2) (j := 0) (dK D_Mo_cheapestPage 44 rfl) rfl rfl ?_
      exact vg_iretI (pc := 82) (r := p17.1) (dK D_Mo_cheapestPage 45 rfl) rfl (leK rfl) (leK rfl) (fun _ => rfl) (by obtain rfl := Option.some.inj h; exact ⟨rfl, hx2_p17, rfl⟩)
def lb_Mo_givesBack_2 (c0 : Nat) (a1 : Int) (go : Int × St → Option (Int × St)) (a3 : Int) (S : St) : Option (Int × St) := if 0 ≤ a3 ∧ a3 < 65 then (if (g S (tgt c0 8) a3.toNat) ≤ 0 then (some (a3, S)) else (if 0 ≤ (g S (tgt c0 8) a3.toNat) ∧ (g S (tgt c0 8) a3.toNat) < 65 then (nm (u S (tgt c0 7) a3.toNat (g S (tgt c0 7) (((g S (tgt c0 8) a3.toNat)).toNat))) fun S3 => go ((g S3 (tgt c0 8) a3.toNat), S3)) else none)) else none
def lo_Mo_givesBack_2 (c0 : Nat) (a1 : Int) : Nat → Int × St → Option (Int × St) := lp fun go p => lb_Mo_givesBack_2 c0 a1 go p.1 p.2
theorem tl_Mo_givesBack_2 {E : EV} {X : XT} {c0 : Nat} (hc0 : HC X 11 c0) {a1 : Int} (ha1 : inR a1) {K : RK → PS → Prop} {q : Int × St} (hx : inR q.1 → Go E M_Mo_givesBack 0 0 38 [(0, .ref c0), (1, V a1), (3, V q.1)] [] (WX X q.2) 0 0 K) : ∀ n a, lo_Mo_givesBack_2 c0 a1 n a = some q → inR a.1 → Go E M_Mo_givesBack 0 0 2 [(0, .ref c0), (1, V a1), (3, V a.1)] [] (WX X a.2) 0 0 K := by
  refine lp_ind (P := fun a : Int × St => inR a.1 → Go E M_Mo_givesBack 0 0 2 [(0, .ref c0), (1, V a1), (3, V a.1)] [] (WX X a.2) 0 0 K) (fun go ih a h => ?_)
  obtain ⟨a3, S⟩ := a
  intro ha3
  show Go E M_Mo_givesBack 0 0 2 [(0, .ref c0), (1, V a1), (3, V a3)] [] (WX X S) 0 0 K
  replace h : lb_Mo_givesBack_2 c0 a1 go a3 S = some q := h
  unfold lb_Mo_givesBack_2 at h
  refine g_aloadn (pc := 2) (i0 := 0) (j := 0) (dK D_Mo_givesBack 2 rfl) rfl rfl ?_
  refine vg_getA (pc := 3) (ci := 11) (f := 8) (dK D_Mo_givesBack 3 rfl) q_1450 hc0 (ltK rfl) (ltK rfl) rfl ?_
  refine g_iloadn (pc := 6) (i0 := 3) (j := 2) (dK D_Mo_givesBack 4 rfl) rfl rfl ?_
  refine gdE h (fun hi1 h => ?_)
  refine vg_iaload (pc := 7) (j := a3.toNat) (dK D_Mo_givesBack 5 rfl) (hw_11_8 hc0) rfl hi1 rfl ?_
  refine vg_if_le (pc := 8) (t := 38) (dK D_Mo_givesBack 6 rfl) rfl (g_in _ _ _) (fun hc4 => ?_) (fun hc4 => ?_)
  · replace h := ifP h hc4
    obtain rfl := Option.some.inj h
    exact hx ha3
  · replace h := ifN h hc4
    refine g_aloadn (pc := 11) (i0 := 0) (j := 0) (dK D_Mo_givesBack 7 rfl) rfl rfl ?_
    refine vg_getA (pc := 12) (ci := 11) (f := 7) (dK D_Mo_givesBack 8 rfl) q_1449 hc0 (ltK rfl) (ltK rfl) rfl ?_
    refine g_iloadn (pc := 15) (i0 := 3) (j := 2) (dK D_Mo_givesBack 9 rfl) rfl rfl ?_
    refine g_aloadn (pc := 16) (i0 := 0) (j := 0) (dK D_Mo_givesBack 10 rfl) rfl rfl ?_
    refine vg_getA (pc := 17) (ci := 11) (f := 7) (dK D_Mo_givesBack 11 rfl) q_1449 hc0 (ltK rfl) (ltK rfl) rfl ?_
    refine g_aloadn (pc := 20) (i0 := 0) (j := 0) (dK D_Mo_givesBack 12 rfl) rfl rfl ?_
    refine vg_getA (pc := 21) (ci := 11) (f := 8) (dK D_Mo_givesBack 13 rfl) q_1450 hc0 (ltK rfl) (ltK rfl) rfl ?_
    refine g_iloadn (pc := 24) (i0 := 3) (j := 2) (dK D_Mo_givesBack 14 rfl) rfl rfl ?_
    refine vg_iaload (pc := 25) (j := a3.toNat) (dK D_Mo_givesBack 15 rfl) (hw_11_8 hc0) rfl hi1 rfl ?_
    refine gdE h (fun hi2 h => ?_)
    refine vg_iaload (pc := 26) (j := ((g S (tgt c0 8) a3.toNat)).toNat) (dK D_Mo_givesBack 16 rfl) (hw_11_7 hc0) rfl hi2 rfl ?_
    refine nmE h (fun S3 e_S3 h => ?_)
    refine vg_iastore (pc := 27) (z := (g S (tgt c0 7) (((g S (tgt c0 8) a3.toNat)).toNat))) (dK D_Mo_givesBack 17 rfl) (hw_11_7 hc0) rfl hi1 rfl e_S3 ?_
    refine g_aloadn (pc := 28) (i0 := 0) (j := 0) (dK D_Mo_givesBack 18 rfl) rfl rfl ?_
    refine vg_getA (pc := 29) (ci := 11) (f := 8) (dK D_Mo_givesBack 19 rfl) q_1450 hc0 (ltK rfl) (ltK rfl) rfl ?_
    refine g_iloadn (pc := 32) (i0 := 3) (j := 2) (dK D_Mo_givesBack 20 rfl) rfl rfl ?_
    refine vg_iaload (pc := 33) (j := a3.toNat) (dK D_Mo_givesBack 21 rfl) (hw_11_8 hc0) rfl hi1 rfl ?_
    refine g_istoren (pc := 34) (i0 := 3) (ls2 := [(3, V (g S3 (tgt c0 8) a3.toNat)), (0, .ref c0), (1, V a1)]) (dK D_Mo_givesBack 22 rfl) rfl (ltK rfl) rfl ?_
    refine g_goto (pc := 35) (tgt := 2) (dK D_Mo_givesBack 23 rfl) rfl ?_
    refine gL_weak (ls' := [(0, .ref c0), (1, V a1), (3, V (g S3 (tgt c0 8) a3.toNat))]) (sbc 1 rfl (sbc 2 rfl (sbc 0 rfl sbn))) ?_
    replace h := ih _ h
    exact h (g_in _ _ _)
def fn_Mo_givesBack (c0 : Nat) (a1 : Int) (a2 : Int) (S : St) : Option (St) := bnO (lo_Mo_givesBack_2 c0 a1 FU (a2, S)) fun p5 => if 0 ≤ p5.1 ∧ p5.1 < 65 then (nm (u p5.2 (tgt c0 7) ((p5.1).toNat) a1) fun S7 => some S7) else none
theorem tf_Mo_givesBack {E : EV} {X : XT} {c0 : Nat} (hc0 : HC X 11 c0) {a1 : Int} (ha1 : inR a1) {a2 : Int} (ha2 : inR a2) {S : St} {q : St} (h : fn_Mo_givesBack c0 a1 a2 S = some q) : Ev E M_Mo_givesBack [.ref c0, V a1, V a2] (WX X S) 0 0 (KU X q) := by
  refine Ev.of pn_Mo rfl (leK rfl) ?_
  show Go E M_Mo_givesBack 0 0 0 [(0, .ref c0), (1, V a1), (2, V a2)] [] (WX X S) 0 0 (KU X q)
  unfold fn_Mo_givesBack at h
  refine g_iloadn (pc := 0) (i0 := 2) (j := 2) (dK D_Mo_givesBack 0 rfl) rfl rfl ?_
  refine g_istoren (pc := 1) (i0 := 3) (ls2 := [(3, V a2), (0, .ref c0), (1, V a1), (2, V a2)]) (dK D_Mo_givesBack 1 rfl) rfl (ltK rfl) rfl ?_
  refine bnE h (fun p5 e_p5 h => ?_)
  refine gL_weak (ls' := [(0, .ref c0), (1, V a1), (3, V a2)]) (sbc 1 rfl (sbc 2 rfl (sbc 0 rfl sbn))) ?_
  refine tl_Mo_givesBack_2 hc0 ha1 (fun hx3_p5 => ?_) FU (a2, S) e_p5 ha2
  refine g_aloadn (pc := 38) (i0 := 0) (j := 0) (dK D_Mo_givesBack 24 rfl) rfl rfl ?_
  refine vg_getA (pc := 39) (ci := 11) (f := 7) (dK D_Mo_givesBack 25 rfl) q_1449 hc0 (ltK rfl) (ltK rfl) rfl ?_
  refine g_iloadn (pc := 42) (i0 := 3) (j := 2) (dK D_Mo_givesBack 26 rfl) rfl rfl ?_
  refine g_iloadn (pc := 43) (i0 := 1) (j := 1) (dK D_Mo_givesBack 27 rfl) rfl rfl ?_
  refine gdE h (fun hi6 h => ?_)
  refine nmE h (fun S7 e_S7 h => ?_)
  refine vg_iastore (pc := 44) (z := a1) (dK D_Mo_givesBack 28 rfl) (hw_11_7 hc0) rfl hi6 rfl e_S7 ?_
  exact g_return (pc := 45) (dK D_Mo_givesBack 29 rfl) rfl (leK rfl) (leK rfl) (fun _ => rfl) (by obtain rfl := Option.some.inj h; exact ⟨rfl, rfl⟩)
def lb_Mo_joins_4 (c0 : Nat) (a1 : Int) (a2 : Int) (go : Int × St → Option (St)) (a3 : Int) (S : St) : Option (St) := bnO (fn_Mo_pageMany c0 S) fun p1 => if p1 < a3 then (some S) else (if 0 ≤ a3 ∧ a3 < 65 then (nm (u S (tgt c0 8) a3.toNat (-1)) fun S3 => nm (wr (a3 + 1)) fun v4 => go (v4, S3)) else none)
def lo_Mo_joins_4 (c0 : Nat) (a1 : Int) (a2 : Int) : Nat → Int × St → Option (St) := lp fun go p => lb_Mo_joins_4 c0 a1 a2 go p.1 p.2
theorem tl_Mo_joins_4 {E : EV} {X : XT} {c0 : Nat} (hc0 : HC X 11 c0) {a1 : Int} (ha1 : inR a1) {a2 : Int} (ha2 : inR a2) {K : RK → PS → Prop} {q : St} (hx : Go E M_Mo_joins 0 0 25 [(0, .ref c0), (1, V a1), (2, V a2)] [] (WX X q) 0 0 K) : ∀ n a, lo_Mo_joins_4 c0 a1 a2 n a = some q → inR a.1 → Go E M_Mo_joins 0 0 4 [(0, .ref c0), (1, V a1), (2, V a2), (3, V a.1)] [] (WX X a.2) 0 0 K := by
  refine lp_ind (P := fun a : Int × St => inR a.1 → Go E M_Mo_joins 0 0 4 [(0, .ref c0), (1, V a1), (2, V a2), (3, V a.1)] [] (WX X a.2) 0 0 K) (fun go ih a h => ?_)
  obtain ⟨a3, S⟩ := a
  intro ha3
  show Go E M_Mo_joins 0 0 4 [(0, .ref c0), (1, V a1), (2, V a2), (3, V a3)] [] (WX X S) 0 0 K
  replace h : lb_Mo_joins_4 c0 a1 a2 go a3 S = some q := h
  unfold lb_Mo_joins_4 at h
  refine g_iloadn (pc := 4) (i0 := 3) (j := 3) (dK D_Mo_joins_0 4 rfl) rfl rfl ?_
  refine g_aloadn (pc := 5) (i0 := 0) (j := 0) (dK D_Mo_joins_0 5 rfl) rfl rfl ?_
  refine bnE h (fun p1 e_p1 h => ?_)
  refine vg_cV (pc := 6) (As := []) (rest := [V a3]) (mc' := 0) (ms' := 0) (dK D_Mo_joins_0 6 rfl) K_Mo_63 (fitK rfl) (ltK rfl) hc0 rfl (leK rfl) (leK rfl) (leK rfl) (tf_Mo_pageMany hc0 e_p1) (kcI (fun h_p1 => ?_))
  refine vg_icmp_gt (pc := 9) (t := 25) (dK D_Mo_joins_0 7 rfl) rfl ha3 h_p1 (fun hc5 => ?_) (fun hc5 => ?_)
  · replace h := ifP h hc5
    obtain rfl := Option.some.inj h
    refine gL_weak (ls' := [(0, .ref c0), (1, V a1), (2, V a2)]) (sbc 0 rfl (sbc 1 rfl (sbc 2 rfl sbn))) ?_
    exact hx 
  · replace h := ifN h hc5
    refine g_aloadn (pc := 12) (i0 := 0) (j := 0) (dK D_Mo_joins_0 8 rfl) rfl rfl ?_
    refine vg_getA (pc := 13) (ci := 11) (f := 8) (dK D_Mo_joins_0 9 rfl) q_1450 hc0 (ltK rfl) (ltK rfl) rfl ?_
    refine g_iloadn (pc := 16) (i0 := 3) (j := 3) (dK D_Mo_joins_0 10 rfl) rfl rfl ?_
    refine vg_iconst (pc := 17) (dK D_Mo_joins_0 11 rfl) ?_
    refine gdE h (fun hi2 h => ?_)
    refine nmE h (fun S3 e_S3 h => ?_)
    refine vg_iastore (pc := 18) (z := (-1)) (dK D_Mo_joins_0 12 rfl) (hw_11_8 hc0) rfl hi2 rfl e_S3 ?_
    refine nmE h (fun v4 e_v4 h => ?_)
    refine vg_iinc (pc := 19) (j := 3) (a := a3) (z := 1) (ls2 := [(3, V v4), (0, .ref c0), (1, V a1), (2, V a2)]) (dK D_Mo_joins_0 13 rfl) rfl e_v4 (ltK rfl) rfl ?_
    refine g_goto (pc := 22) (tgt := 4) (dK D_Mo_joins_0 14 rfl) rfl ?_
    refine gL_weak (ls' := [(0, .ref c0), (1, V a1), (2, V a2), (3, V v4)]) (sbc 1 rfl (sbc 2 rfl (sbc 3 rfl (sbc 0 rfl sbn)))) ?_
    replace h := ih _ h
    exact h (Vn_in e_v4)
def lb_Mo_joins_27 (c0 : Nat) (a1 : Int) (go : Int × Int × St → Option (Int × St)) (a2 : Int) (a3 : Int) (S : St) : Option (Int × St) := bnO (fn_Mo_pageMany c0 S) fun p7 => if p7 < a3 then (some (a2, S)) else (if 0 ≤ ((65 * a1) + a3) ∧ ((65 * a1) + a3) < 2600 then (if (g S (tgt c0 10) ((((65 * a1) + a3)).toNat)) = 0 then (nm (wr (a3 + 1)) fun v15 => go (a2, v15, S)) else (if 0 ≤ a3 ∧ a3 < 65 then (nm (u S (tgt c0 8) a3.toNat 0) fun S10 => if 0 ≤ a2 ∧ a2 < 65 then (nm (u S10 (tgt c0 9) a2.toNat a3) fun S12 => nm (wr (a2 + 1)) fun v13 => nm (wr (a3 + 1)) fun v14 => go (v13, v14, S12)) else none) else none)) else none)
def lo_Mo_joins_27 (c0 : Nat) (a1 : Int) : Nat → Int × Int × St → Option (Int × St) := lp fun go p => lb_Mo_joins_27 c0 a1 go p.1 p.2.1 p.2.2
theorem tl_Mo_joins_27 {E : EV} {X : XT} {c0 : Nat} (hc0 : HC X 11 c0) {a1 : Int} (ha1 : inR a1) {K : RK → PS → Prop} {q : Int × St} (hx : inR q.1 → Go E M_Mo_joins 0 0 75 [(0, .ref c0), (1, V a1), (2, V q.1)] [] (WX X q.2) 0 0 K) : ∀ n a, lo_Mo_joins_27 c0 a1 n a = some q → inR a.1 → inR a.2.1 → Go E M_Mo_joins 0 0 27 [(0, .ref c0), (1, V a1), (2, V a.1), (3, V a.2.1)] [] (WX X a.2.2) 0 0 K := by
  refine lp_ind (P := fun a : Int × Int × St => inR a.1 → inR a.2.1 → Go E M_Mo_joins 0 0 27 [(0, .ref c0), (1, V a1), (2, V a.1), (3, V a.2.1)] [] (WX X a.2.2) 0 0 K) (fun go ih a h => ?_)
  obtain ⟨a2, a3, S⟩ := a
  intro ha2 ha3
  show Go E M_Mo_joins 0 0 27 [(0, .ref c0), (1, V a1), (2, V a2), (3, V a3)] [] (WX X S) 0 0 K
  replace h : lb_Mo_joins_27 c0 a1 go a2 a3 S = some q := h
  unfold lb_Mo_joins_27 at h
  refine g_iloadn (pc := 27) (i0 := 3) (j := 3) (dK D_Mo_joins_0 17 rfl) rfl rfl ?_
  refine g_aloadn (pc := 28) (i0 := 0) (j := 0) (dK D_Mo_joins_0 18 rfl) rfl rfl ?_
  refine bnE h (fun p7 e_p7 h => ?_)
  refine vg_cV (pc := 29) (As := []) (rest := [V a3]) (mc' := 0) (ms' := 0) (dK D_Mo_joins_0 19 rfl) K_Mo_63 (fitK rfl) (ltK rfl) hc0 rfl (leK rfl) (leK rfl) (leK rfl) (tf_Mo_pageMany hc0 e_p7) (kcI (fun h_p7 => ?_))
  refine vg_icmp_gt (pc := 32) (t := 75) (dK D_Mo_joins_0 20 rfl) rfl ha3 h_p7 (fun hc17 => ?_) (fun hc17 => ?_)
  · replace h := ifP h hc17
    obtain rfl := Option.some.inj h
    refine gL_weak (ls' := [(0, .ref c0), (1, V a1), (2, V a2)]) (sbc 0 rfl (sbc 1 rfl (sbc 2 rfl sbn))) ?_
    exact hx ha2
  · replace h := ifN h hc17
    refine g_aloadn (pc := 35) (i0 := 0) (j := 0) (dK D_Mo_joins_0 21 rfl) rfl rfl ?_
    refine vg_getA (pc := 36) (ci := 11) (f := 10) (dK D_Mo_joins_0 22 rfl) q_1452 hc0 (ltK rfl) (ltK rfl) rfl ?_
    refine vg_bipush (pc := 39) (dK D_Mo_joins_0 23 rfl) rfl ?_
    refine g_iloadn (pc := 41) (i0 := 1) (j := 1) (dK D_Mo_joins_0 24 rfl) rfl rfl ?_
    refine vg_imul (pc := 42) (dK D_Mo_joins_0 25 rfl) ?_
    refine g_iloadn (pc := 43) (i0 := 3) (j := 3) (dK D_Mo_joins_0 26 rfl) rfl rfl ?_
    refine vg_iadd (pc := 44) (dK D_Mo_joins_0 27 rfl) ?_
    refine gdE h (fun hi8 h => ?_)
    refine vg_zaload (pc := 45) (j := (((65 * a1) + a3)).toNat) (dK D_Mo_joins_0 28 rfl) (hw_11_10 hc0) rfl hi8 rfl ?_
    refine vg_if_ne (pc := 46) (t := 52) (dK D_Mo_joins_0 29 rfl) rfl (g_in _ _ _) (fun hc16 => ?_) (fun hc16 => ?_)
    · replace h := ifN h hc16
      refine g_aloadn (pc := 52) (i0 := 0) (j := 0) (dK D_Mo_joins_0 31 rfl) rfl rfl ?_
      refine vg_getA (pc := 53) (ci := 11) (f := 8) (dK D_Mo_joins_0 32 rfl) q_1450 hc0 (ltK rfl) (ltK rfl) rfl ?_
      refine g_iloadn (pc := 56) (i0 := 3) (j := 3) (dK D_Mo_joins_0 33 rfl) rfl rfl ?_
      refine vg_iconst (pc := 57) (dK D_Mo_joins_0 34 rfl) ?_
      refine gdE h (fun hi9 h => ?_)
      refine nmE h (fun S10 e_S10 h => ?_)
      refine vg_iastore (pc := 58) (z := 0) (dK D_Mo_joins_0 35 rfl) (hw_11_8 hc0) rfl hi9 rfl e_S10 ?_
      refine g_aloadn (pc := 59) (i0 := 0) (j := 0) (dK D_Mo_joins_0 36 rfl) rfl rfl ?_
      refine vg_getA (pc := 60) (ci := 11) (f := 9) (dK D_Mo_joins_0 37 rfl) q_1451 hc0 (ltK rfl) (ltK rfl) rfl ?_
      refine g_iloadn (pc := 63) (i0 := 2) (j := 2) (dK D_Mo_joins_0 38 rfl) rfl rfl ?_
      refine g_iloadn (pc := 64) (i0 := 3) (j := 3) (dK D_Mo_joins_0 39 rfl) rfl rfl ?_
      refine gdE h (fun hi11 h => ?_)
      refine nmE h (fun S12 e_S12 h => ?_)
      refine vg_iastore (pc := 65) (z := a3) (dK D_Mo_joins_0 40 rfl) (hw_11_9 hc0) rfl hi11 rfl e_S12 ?_
      refine nmE h (fun v13 e_v13 h => ?_)
      refine vg_iinc (pc := 66) (j := 2) (a := a2) (z := 1) (ls2 := [(2, V v13), (0, .ref c0), (1, V a1), (3, V a3)]) (dK D_Mo_joins_0 41 rfl) rfl e_v13 (ltK rfl) rfl ?_
      refine nmE h (fun v14 e_v14 h => ?_)
      refine vg_iinc (pc := 69) (j := 3) (a := a3) (z := 1) (ls2 := [(3, V v14), (2, V v13), (0, .ref c0), (1, V a1)]) (dK D_Mo_joins_0 42 rfl) rfl e_v14 (ltK rfl) rfl ?_
      refine g_goto (pc := 72) (tgt := 27) (dK D_Mo_joins_0 43 rfl) rfl ?_
      refine gL_weak (ls' := [(0, .ref c0), (1, V a1), (2, V v13), (3, V v14)]) (sbc 2 rfl (sbc 3 rfl (sbc 1 rfl (sbc 0 rfl sbn)))) ?_
      replace h := ih _ h
      exact h (Vn_in e_v13) (Vn_in e_v14)
    · replace h := ifP h hc16
      refine g_goto (pc := 49) (tgt := 69) (dK D_Mo_joins_0 30 rfl) rfl ?_
      refine nmE h (fun v15 e_v15 h => ?_)
      refine vg_iinc (pc := 69) (j := 3) (a := a3) (z := 1) (ls2 := [(3, V v15), (0, .ref c0), (1, V a1), (2, V a2)]) (dK D_Mo_joins_0 42 rfl) rfl e_v15 (ltK rfl) rfl ?_
      refine g_goto (pc := 72) (tgt := 27) (dK D_Mo_joins_0 43 rfl) rfl ?_
      refine gL_weak (ls' := [(0, .ref c0), (1, V a1), (2, V a2), (3, V v15)]) (sbc 1 rfl (sbc 2 rfl (sbc 3 rfl (sbc 0 rfl sbn)))) ?_
      replace h := ih _ h
      exact h ha2 (Vn_in e_v15)
def lb_Mo_joins_113 (c0 : Nat) (a1 : Int) (a3 : Int) (a4 : Int) (go : Int × Int × St → Option (Int × St)) (a2 : Int) (a5 : Int) (S : St) : Option (Int × St) := bnO (fn_Mo_pageMany c0 S) fun p21 => if p21 < a5 then (some (a2, S)) else (if 0 ≤ a5 ∧ a5 < 65 then (if (g S (tgt c0 8) a5.toNat) = (-1) then (if 0 ≤ a4 ∧ a4 < 65 then (if 0 ≤ ((65 * (g S (tgt c0 7) a4.toNat)) + a5) ∧ ((65 * (g S (tgt c0 7) a4.toNat)) + a5) < 2600 then (if (g S (tgt c0 10) ((((65 * (g S (tgt c0 7) a4.toNat)) + a5)).toNat)) = 0 then (nm (wr (a5 + 1)) fun v31 => go (a2, v31, S)) else (nm (u S (tgt c0 8) a5.toNat a4) fun S26 => if 0 ≤ a2 ∧ a2 < 65 then (nm (u S26 (tgt c0 9) a2.toNat a5) fun S28 => nm (wr (a2 + 1)) fun v29 => nm (wr (a5 + 1)) fun v30 => go (v29, v30, S28)) else none)) else none) else none) else (nm (wr (a5 + 1)) fun v23 => go (a2, v23, S))) else none)
def lo_Mo_joins_113 (c0 : Nat) (a1 : Int) (a3 : Int) (a4 : Int) : Nat → Int × Int × St → Option (Int × St) := lp fun go p => lb_Mo_joins_113 c0 a1 a3 a4 go p.1 p.2.1 p.2.2
theorem tl_Mo_joins_113 {E : EV} {X : XT} {c0 : Nat} (hc0 : HC X 11 c0) {a1 : Int} (ha1 : inR a1) {a3 : Int} (ha3 : inR a3) {a4 : Int} (ha4 : inR a4) {K : RK → PS → Prop} {q : Int × St} (hx : inR q.1 → Go E M_Mo_joins 0 0 183 [(0, .ref c0), (1, V a1), (2, V q.1), (3, V a3)] [] (WX X q.2) 0 0 K) : ∀ n a, lo_Mo_joins_113 c0 a1 a3 a4 n a = some q → inR a.1 → inR a.2.1 → Go E M_Mo_joins 0 0 113 [(0, .ref c0), (1, V a1), (2, V a.1), (3, V a3), (4, V a4), (5, V a.2.1)] [] (WX X a.2.2) 0 0 K := by
  refine lp_ind (P := fun a : Int × Int × St => inR a.1 → inR a.2.1 → Go E M_Mo_joins 0 0 113 [(0, .ref c0), (1, V a1), (2, V a.1), (3, V a3), (4, V a4), (5, V a.2.1)] [] (WX X a.2.2) 0 0 K) (fun go ih a h => ?_)
  obtain ⟨a2, a5, S⟩ := a
  intro ha2 ha5
  show Go E M_Mo_joins 0 0 113 [(0, .ref c0), (1, V a1), (2, V a2), (3, V a3), (4, V a4), (5, V a5)] [] (WX X S) 0 0 K
  replace h : lb_Mo_joins_113 c0 a1 a3 a4 go a2 a5 S = some q := h
  unfold lb_Mo_joins_113 at h
  refine g_iload (pc := 113) (j := 5) (dK D_Mo_joins_1 18 rfl) rfl ?_
  refine g_aloadn (pc := 115) (i0 := 0) (j := 0) (dK D_Mo_joins_1 19 rfl) rfl rfl ?_
  refine bnE h (fun p21 e_p21 h => ?_)
  refine vg_cV (pc := 116) (As := []) (rest := [V a5]) (mc' := 0) (ms' := 0) (dK D_Mo_joins_1 20 rfl) K_Mo_63 (fitK rfl) (ltK rfl) hc0 rfl (leK rfl) (leK rfl) (leK rfl) (tf_Mo_pageMany hc0 e_p21) (kcI (fun h_p21 => ?_))
  refine vg_icmp_gt (pc := 119) (t := 183) (dK D_Mo_joins_1 21 rfl) rfl ha5 h_p21 (fun hc34 => ?_) (fun hc34 => ?_)
  · replace h := ifP h hc34
    obtain rfl := Option.some.inj h
    refine gL_weak (ls' := [(0, .ref c0), (1, V a1), (2, V a2), (3, V a3)]) (sbc 0 rfl (sbc 1 rfl (sbc 2 rfl (sbc 3 rfl sbn)))) ?_
    exact hx ha2
  · replace h := ifN h hc34
    refine g_aloadn (pc := 122) (i0 := 0) (j := 0) (dK D_Mo_joins_1 22 rfl) rfl rfl ?_
    refine vg_getA (pc := 123) (ci := 11) (f := 8) (dK D_Mo_joins_1 23 rfl) q_1450 hc0 (ltK rfl) (ltK rfl) rfl ?_
    refine g_iload (pc := 126) (j := 5) (dK D_Mo_joins_1 24 rfl) rfl ?_
    refine gdE h (fun hi22 h => ?_)
    refine vg_iaload (pc := 128) (j := a5.toNat) (dK D_Mo_joins_1 25 rfl) (hw_11_8 hc0) rfl hi22 rfl ?_
    refine vg_iconst (pc := 129) (dK D_Mo_joins_1 26 rfl) ?_
    refine vg_icmp_ne (pc := 130) (t := 177) (dK D_Mo_joins_1 27 rfl) rfl (g_in _ _ _) (inRk rfl) (fun hc33 => ?_) (fun hc33 => ?_)
    · replace h := ifN h hc33
      refine nmE h (fun v23 e_v23 h => ?_)
      refine vg_iinc (pc := 177) (j := 5) (a := a5) (z := 1) (ls2 := [(5, V v23), (0, .ref c0), (1, V a1), (2, V a2), (3, V a3), (4, V a4)]) (dK D_Mo_joins_2 2 rfl) rfl e_v23 (ltK rfl) rfl ?_
      refine g_goto (pc := 180) (tgt := 113) (dK D_Mo_joins_2 3 rfl) rfl ?_
      refine gL_weak (ls' := [(0, .ref c0), (1, V a1), (2, V a2), (3, V a3), (4, V a4), (5, V v23)]) (sbc 1 rfl (sbc 2 rfl (sbc 3 rfl (sbc 4 rfl (sbc 5 rfl (sbc 0 rfl sbn)))))) ?_
      replace h := ih _ h
      exact h ha2 (Vn_in e_v23)
    · replace h := ifP h hc33
      refine g_aloadn (pc := 133) (i0 := 0) (j := 0) (dK D_Mo_joins_1 28 rfl) rfl rfl ?_
      refine vg_getA (pc := 134) (ci := 11) (f := 10) (dK D_Mo_joins_1 29 rfl) q_1452 hc0 (ltK rfl) (ltK rfl) rfl ?_
      refine vg_bipush (pc := 137) (dK D_Mo_joins_1 30 rfl) rfl ?_
      refine g_aloadn (pc := 139) (i0 := 0) (j := 0) (dK D_Mo_joins_1 31 rfl) rfl rfl ?_
      refine vg_getA (pc := 140) (ci := 11) (f := 7) (dK D_Mo_joins_1 32 rfl) q_1449 hc0 (ltK rfl) (ltK rfl) rfl ?_
      refine g_iload (pc := 143) (j := 4) (dK D_Mo_joins_1 33 rfl) rfl ?_
      refine gdE h (fun hi24 h => ?_)
      refine vg_iaload (pc := 145) (j := a4.toNat) (dK D_Mo_joins_1 34 rfl) (hw_11_7 hc0) rfl hi24 rfl ?_
      refine vg_imul (pc := 146) (dK D_Mo_joins_1 35 rfl) ?_
      refine g_iload (pc := 147) (j := 5) (dK D_Mo_joins_1 36 rfl) rfl ?_
      refine vg_iadd (pc := 149) (dK D_Mo_joins_1 37 rfl) ?_
      refine gdE h (fun hi25 h => ?_)
      refine vg_zaload (pc := 150) (j := (((65 * (g S (tgt c0 7) a4.toNat)) + a5)).toNat) (dK D_Mo_joins_1 38 rfl) (hw_11_10 hc0) rfl hi25 rfl ?_
      refine vg_if_ne (pc := 151) (t := 157) (dK D_Mo_joins_1 39 rfl) rfl (g_in _ _ _) (fun hc32 => ?_) (fun hc32 => ?_)
      · replace h := ifN h hc32
        refine g_aloadn (pc := 157) (i0 := 0) (j := 0) (dK D_Mo_joins_1 41 rfl) rfl rfl ?_
        refine vg_getA (pc := 158) (ci := 11) (f := 8) (dK D_Mo_joins_1 42 rfl) q_1450 hc0 (ltK rfl) (ltK rfl) rfl ?_
        refine g_iload (pc := 161) (j := 5) (dK D_Mo_joins_1 43 rfl) rfl ?_
        refine g_iload (pc := 163) (j := 4) (dK D_Mo_joins_1 44 rfl) rfl ?_
        refine nmE h (fun S26 e_S26 h => ?_)
        refine vg_iastore (pc := 165) (z := a4) (dK D_Mo_joins_1 45 rfl) (hw_11_8 hc0) rfl hi22 rfl e_S26 ?_
        refine g_aloadn (pc := 166) (i0 := 0) (j := 0) (dK D_Mo_joins_1 46 rfl) rfl rfl ?_
        refine vg_getA (pc := 167) (ci := 11) (f := 9) (dK D_Mo_joins_1 47 rfl) q_1451 hc0 (ltK rfl) (ltK rfl) rfl ?_
        refine g_iloadn (pc := 170) (i0 := 2) (j := 2) (dK D_Mo_joins_1 48 rfl) rfl rfl ?_
        refine g_iload (pc := 171) (j := 5) (dK D_Mo_joins_1 49 rfl) rfl ?_
        refine gdE h (fun hi27 h => ?_)
        refine nmE h (fun S28 e_S28 h => ?_)
        refine vg_iastore (pc := 173) (z := a5) (dK D_Mo_joins_2 0 rfl) (hw_11_9 hc0) rfl hi27 rfl e_S28 ?_
        refine nmE h (fun v29 e_v29 h => ?_)
        refine vg_iinc (pc := 174) (j := 2) (a := a2) (z := 1) (ls2 := [(2, V v29), (0, .ref c0), (1, V a1), (3, V a3), (4, V a4), (5, V a5)]) (dK D_Mo_joins_2 1 rfl) rfl e_v29 (ltK rfl) rfl ?_
        refine nmE h (fun v30 e_v30 h => ?_)
        refine vg_iinc (pc := 177) (j := 5) (a := a5) (z := 1) (ls2 := [(5, V v30), (2, V v29), (0, .ref c0), (1, V a1), (3, V a3), (4, V a4)]) (dK D_Mo_joins_2 2 rfl) rfl e_v30 (ltK rfl) rfl ?_
        refine g_goto (pc := 180) (tgt := 113) (dK D_Mo_joins_2 3 rfl) rfl ?_
        refine gL_weak (ls' := [(0, .ref c0), (1, V a1), (2, V v29), (3, V a3), (4, V a4), (5, V v30)]) (sbc 2 rfl (sbc 3 rfl (sbc 1 rfl (sbc 4 rfl (sbc 5 rfl (sbc 0 rfl sbn)))))) ?_
        replace h := ih _ h
        exact h (Vn_in e_v29) (Vn_in e_v30)
      · replace h := ifP h hc32
        refine g_goto (pc := 154) (tgt := 177) (dK D_Mo_joins_1 40 rfl) rfl ?_
        refine nmE h (fun v31 e_v31 h => ?_)
        refine vg_iinc (pc := 177) (j := 5) (a := a5) (z := 1) (ls2 := [(5, V v31), (0, .ref c0), (1, V a1), (2, V a2), (3, V a3), (4, V a4)]) (dK D_Mo_joins_2 2 rfl) rfl e_v31 (ltK rfl) rfl ?_
        refine g_goto (pc := 180) (tgt := 113) (dK D_Mo_joins_2 3 rfl) rfl ?_
        refine gL_weak (ls' := [(0, .ref c0), (1, V a1), (2, V a2), (3, V a3), (4, V a4), (5, V v31)]) (sbc 1 rfl (sbc 2 rfl (sbc 3 rfl (sbc 4 rfl (sbc 5 rfl (sbc 0 rfl sbn)))))) ?_
        replace h := ih _ h
        exact h ha2 (Vn_in e_v31)
def lb_Mo_joins_77 (c0 : Nat) (a1 : Int) (go : Int × Int × St → Option ((Bool × St) ⊕ (St))) (a2 : Int) (a3 : Int) (S : St) : Option ((Bool × St) ⊕ (St)) := if a2 ≤ a3 then (some (.inr S)) else (if 0 ≤ a3 ∧ a3 < 65 then (if 0 ≤ (g S (tgt c0 9) a3.toNat) ∧ (g S (tgt c0 9) a3.toNat) < 65 then (if (g S (tgt c0 7) (((g S (tgt c0 9) a3.toNat)).toNat)) = (-1) then (bnO (fn_Mo_givesBack c0 a1 (g S (tgt c0 9) a3.toNat) S) fun p37 => some (.inl (true, p37))) else (bnO (lo_Mo_joins_113 c0 a1 a3 (g S (tgt c0 9) a3.toNat) FU (a2, 1, S)) fun p35 => nm (wr (a3 + 1)) fun v36 => go (p35.1, v36, p35.2))) else none) else none)
def lo_Mo_joins_77 (c0 : Nat) (a1 : Int) : Nat → Int × Int × St → Option ((Bool × St) ⊕ (St)) := lp fun go p => lb_Mo_joins_77 c0 a1 go p.1 p.2.1 p.2.2
theorem tl_Mo_joins_77 {E : EV} {X : XT} {c0 : Nat} (hc0 : HC X 11 c0) {a1 : Int} (ha1 : inR a1) {K : RK → PS → Prop} {q : (Bool × St) ⊕ (St)} (hx : ∀ p, q = .inr p → Go E M_Mo_joins 0 0 189 [] [] (WX X p) 0 0 K) (hr : ∀ p, q = .inl p → K (.inl (some (V (bi p.1)))) (WX X p.2)) : ∀ n a, lo_Mo_joins_77 c0 a1 n a = some q → inR a.1 → inR a.2.1 → Go E M_Mo_joins 0 0 77 [(0, .ref c0), (1, V a1), (2, V a.1), (3, V a.2.1)] [] (WX X a.2.2) 0 0 K := by
  refine lp_ind (P := fun a : Int × Int × St => inR a.1 → inR a.2.1 → Go E M_Mo_joins 0 0 77 [(0, .ref c0), (1, V a1), (2, V a.1), (3, V a.2.1)] [] (WX X a.2.2) 0 0 K) (fun go ih a h => ?_)
  obtain ⟨a2, a3, S⟩ := a
  intro ha2 ha3
  show Go E M_Mo_joins 0 0 77 [(0, .ref c0), (1, V a1), (2, V a2), (3, V a3)] [] (WX X S) 0 0 K
  replace h : lb_Mo_joins_77 c0 a1 go a2 a3 S = some q := h
  unfold lb_Mo_joins_77 at h
  refine g_iloadn (pc := 77) (i0 := 3) (j := 3) (dK D_Mo_joins_0 46 rfl) rfl rfl ?_
  refine g_iloadn (pc := 78) (i0 := 2) (j := 2) (dK D_Mo_joins_0 47 rfl) rfl rfl ?_
  refine vg_icmp_ge (pc := 79) (t := 189) (dK D_Mo_joins_0 48 rfl) rfl ha3 ha2 (fun hc39 => ?_) (fun hc39 => ?_)
  · replace h := ifP h hc39
    refine gL_weak (ls' := []) sbn ?_
    exact hx _ (Option.some.inj h).symm 
  · replace h := ifN h hc39
    refine g_aloadn (pc := 82) (i0 := 0) (j := 0) (dK D_Mo_joins_0 49 rfl) rfl rfl ?_
    refine vg_getA (pc := 83) (ci := 11) (f := 9) (dK D_Mo_joins_1 0 rfl) q_1451 hc0 (ltK rfl) (ltK rfl) rfl ?_
    refine g_iloadn (pc := 86) (i0 := 3) (j := 3) (dK D_Mo_joins_1 1 rfl) rfl rfl ?_
    refine gdE h (fun hi19 h => ?_)
    refine vg_iaload (pc := 87) (j := a3.toNat) (dK D_Mo_joins_1 2 rfl) (hw_11_9 hc0) rfl hi19 rfl ?_
    refine g_istore (pc := 88) (ls2 := [(4, V (g S (tgt c0 9) a3.toNat)), (0, .ref c0), (1, V a1), (2, V a2), (3, V a3)]) (dK D_Mo_joins_1 3 rfl) (ltK rfl) rfl ?_
    refine g_aloadn (pc := 90) (i0 := 0) (j := 1) (dK D_Mo_joins_1 4 rfl) rfl rfl ?_
    refine vg_getA (pc := 91) (ci := 11) (f := 7) (dK D_Mo_joins_1 5 rfl) q_1449 hc0 (ltK rfl) (ltK rfl) rfl ?_
    refine g_iload (pc := 94) (j := 0) (dK D_Mo_joins_1 6 rfl) rfl ?_
    refine gdE h (fun hi20 h => ?_)
    refine vg_iaload (pc := 96) (j := ((g S (tgt c0 9) a3.toNat)).toNat) (dK D_Mo_joins_1 7 rfl) (hw_11_7 hc0) rfl hi20 rfl ?_
    refine vg_iconst (pc := 97) (dK D_Mo_joins_1 8 rfl) ?_
    refine vg_icmp_ne (pc := 98) (t := 110) (dK D_Mo_joins_1 9 rfl) rfl (g_in _ _ _) (inRk rfl) (fun hc38 => ?_) (fun hc38 => ?_)
    · replace h := ifN h hc38
      refine vg_iconst (pc := 110) (dK D_Mo_joins_1 16 rfl) ?_
      refine g_istore (pc := 111) (ls2 := [(5, V 1), (4, V (g S (tgt c0 9) a3.toNat)), (0, .ref c0), (1, V a1), (2, V a2), (3, V a3)]) (dK D_Mo_joins_1 17 rfl) (ltK rfl) rfl ?_
      refine bnE h (fun p35 e_p35 h => ?_)
      refine gL_weak (ls' := [(0, .ref c0), (1, V a1), (2, V a2), (3, V a3), (4, V (g S (tgt c0 9) a3.toNat)), (5, V 1)]) (sbc 2 rfl (sbc 3 rfl (sbc 4 rfl (sbc 5 rfl (sbc 1 rfl (sbc 0 rfl sbn)))))) ?_
      refine tl_Mo_joins_113 hc0 ha1 ha3 (g_in _ _ _) (fun hx2_p35 => ?_) FU (a2, 1, S) e_p35 ha2 (inRk rfl)
      refine nmE h (fun v36 e_v36 h => ?_)
      refine vg_iinc (pc := 183) (j := 3) (a := a3) (z := 1) (ls2 := [(3, V v36), (0, .ref c0), (1, V a1), (2, V p35.1)]) (dK D_Mo_joins_2 4 rfl) rfl e_v36 (ltK rfl) rfl ?_
      refine g_goto (pc := 186) (tgt := 77) (dK D_Mo_joins_2 5 rfl) rfl ?_
      refine gL_weak (ls' := [(0, .ref c0), (1, V a1), (2, V p35.1), (3, V v36)]) (sbc 1 rfl (sbc 2 rfl (sbc 3 rfl (sbc 0 rfl sbn)))) ?_
      replace h := ih _ h
      exact h hx2_p35 (Vn_in e_v36)
    · replace h := ifP h hc38
      refine g_aloadn (pc := 101) (i0 := 0) (j := 1) (dK D_Mo_joins_1 10 rfl) rfl rfl ?_
      refine g_iloadn (pc := 102) (i0 := 1) (j := 2) (dK D_Mo_joins_1 11 rfl) rfl rfl ?_
      refine g_iload (pc := 103) (j := 0) (dK D_Mo_joins_1 12 rfl) rfl ?_
      refine bnE h (fun p37 e_p37 h => ?_)
      refine vg_cV (pc := 105) (As := [V a1, V (g S (tgt c0 9) a3.toNat)]) (rest := []) (mc' := 0) (ms' := 0) (dK D_Mo_joins_1 13 rfl) K_Mo_264 (fitK rfl) (ltK rfl) hc0 rfl (leK rfl) (leK rfl) (leK rfl) (tf_Mo_givesBack hc0 ha1 (g_in _ _ _) e_p37) (kcU ?_)
      refine vg_iconst (pc := 108) (dK D_Mo_joins_1 14 rfl) ?_
      exact vg_iretB (pc := 109) (b := true) (dK D_Mo_joins_1 15 rfl) rfl (leK rfl) (leK rfl) (fun _ => rfl) (hr _ (Option.some.inj h).symm)
def fn_Mo_joins (c0 : Nat) (a1 : Int) (S : St) : Option (Bool × St) := bnO (lo_Mo_joins_4 c0 a1 0 FU (1, S)) fun p6 => bnO (lo_Mo_joins_27 c0 a1 FU (0, 1, p6)) fun p18 => bnS (lo_Mo_joins_77 c0 a1 FU (p18.1, 0, p18.2)) (fun p41 => some (p41.1, p41.2)) fun p40 => some (false, p40)
theorem tf_Mo_joins {E : EV} {X : XT} {c0 : Nat} (hc0 : HC X 11 c0) {a1 : Int} (ha1 : inR a1) {S : St} {q : Bool × St} (h : fn_Mo_joins c0 a1 S = some q) : Ev E M_Mo_joins [.ref c0, V a1] (WX X S) 0 0 (KB X q.1 q.2) := by
  refine Ev.of pn_Mo rfl (leK rfl) ?_
  show Go E M_Mo_joins 0 0 0 [(0, .ref c0), (1, V a1)] [] (WX X S) 0 0 (KB X q.1 q.2)
  unfold fn_Mo_joins at h
  refine vg_iconst (pc := 0) (dK D_Mo_joins_0 0 rfl) ?_
  refine g_istoren (pc := 1) (i0 := 2) (ls2 := [(2, V 0), (0, .ref c0), (1, V a1)]) (dK D_Mo_joins_0 1 rfl) rfl (ltK rfl) rfl ?_
  refine vg_iconst (pc := 2) (dK D_Mo_joins_0 2 rfl) ?_
  refine g_istoren (pc := 3) (i0 := 3) (ls2 := [(3, V 1), (2, V 0), (0, .ref c0), (1, V a1)]) (dK D_Mo_joins_0 3 rfl) rfl (ltK rfl) rfl ?_
  refine bnE h (fun p6 e_p6 h => ?_)
  refine gL_weak (ls' := [(0, .ref c0), (1, V a1), (2, V 0), (3, V 1)]) (sbc 2 rfl (sbc 3 rfl (sbc 1 rfl (sbc 0 rfl sbn)))) ?_
  refine tl_Mo_joins_4 hc0 ha1 (inRk rfl) ?_ FU (1, S) e_p6 (inRk rfl)
  refine vg_iconst (pc := 25) (dK D_Mo_joins_0 15 rfl) ?_
  refine g_istoren (pc := 26) (i0 := 3) (ls2 := [(3, V 1), (0, .ref c0), (1, V a1), (2, V 0)]) (dK D_Mo_joins_0 16 rfl) rfl (ltK rfl) rfl ?_
  refine bnE h (fun p18 e_p18 h => ?_)
  refine gL_weak (ls' := [(0, .ref c0), (1, V a1), (2, V 0), (3, V 1)]) (sbc 1 rfl (sbc 2 rfl (sbc 3 rfl (sbc 0 rfl sbn)))) ?_
  refine tl_Mo_joins_27 hc0 ha1 (fun hx2_p18 => ?_) FU (0, 1, p6) e_p18 (inRk rfl) (inRk rfl)
  refine vg_iconst (pc := 75) (dK D_Mo_joins_0 44 rfl) ?_
  refine g_istoren (pc := 76) (i0 := 3) (ls2 := [(3, V 0), (0, .ref c0), (1, V a1), (2, V p18.1)]) (dK D_Mo_joins_0 45 rfl) rfl (ltK rfl) rfl ?_
  refine bnSE h (fun p41 e_p41 h => ?_) (fun p40 e_p40 h => ?_)
  · refine gL_weak (ls' := [(0, .ref c0), (1, V a1), (2, V p18.1), (3, V 0)]) (sbc 1 rfl (sbc 2 rfl (sbc 3 rfl (sbc 0 rfl sbn)))) ?_
    refine tl_Mo_joins_77 hc0 ha1 (fun _ e => slr e) (fun p e => ?_) FU (p18.1, 0, p18.2) e_p41 hx2_p18 (inRk rfl)
    have e := Sum.inl.inj e
    subst e
    exact (by obtain rfl := Option.some.inj h; exact ⟨rfl, rfl⟩)
  · refine gL_weak (ls' := [(0, .ref c0), (1, V a1), (2, V p18.1), (3, V 0)]) (sbc 1 rfl (sbc 2 rfl (sbc 3 rfl (sbc 0 rfl sbn)))) ?_
    refine tl_Mo_joins_77 hc0 ha1 (fun p e => ?_) (fun _ e => srl e) FU (p18.1, 0, p18.2) e_p40 hx2_p18 (inRk rfl)
    have e := Sum.inr.inj e
    subst e
    refine vg_iconst (pc := 189) (dK D_Mo_joins_2 6 rfl) ?_
    exact vg_iretB (pc := 190) (b := false) (dK D_Mo_joins_2 7 rfl) rfl (leK rfl) (leK rfl) (fun _ => rfl) (by obtain rfl := Option.some.inj h; exact ⟨rfl, rfl⟩)
def lb_Mo_matching_7 (c0 : Nat) (go : Int × St → Option (St)) (a1 : Int) (S : St) : Option (St) := bnO (fn_Mo_pageMany c0 S) fun p2 => if p2 < a1 then (some S) else (if 0 ≤ a1 ∧ a1 < 65 then (nm (u S (tgt c0 7) a1.toNat (-1)) fun S4 => nm (wr (a1 + 1)) fun v5 => go (v5, S4)) else none)
def lo_Mo_matching_7 (c0 : Nat) : Nat → Int × St → Option (St) := lp fun go p => lb_Mo_matching_7 c0 go p.1 p.2
theorem tl_Mo_matching_7 {E : EV} {X : XT} {c0 : Nat} (hc0 : HC X 11 c0) {K : RK → PS → Prop} {q : St} (hx : Go E M_Mo_matching 0 0 28 [(0, .ref c0)] [] (WX X q) 0 0 K) : ∀ n a, lo_Mo_matching_7 c0 n a = some q → inR a.1 → Go E M_Mo_matching 0 0 7 [(0, .ref c0), (1, V a.1)] [] (WX X a.2) 0 0 K := by
  refine lp_ind (P := fun a : Int × St => inR a.1 → Go E M_Mo_matching 0 0 7 [(0, .ref c0), (1, V a.1)] [] (WX X a.2) 0 0 K) (fun go ih a h => ?_)
  obtain ⟨a1, S⟩ := a
  intro ha1
  show Go E M_Mo_matching 0 0 7 [(0, .ref c0), (1, V a1)] [] (WX X S) 0 0 K
  replace h : lb_Mo_matching_7 c0 go a1 S = some q := h
  unfold lb_Mo_matching_7 at h
  refine g_iloadn (pc := 7) (i0 := 1) (j := 1) (dK D_Mo_matching_0 5 rfl) rfl rfl ?_
  refine g_aloadn (pc := 8) (i0 := 0) (j := 0) (dK D_Mo_matching_0 6 rfl) rfl rfl ?_
  refine bnE h (fun p2 e_p2 h => ?_)
  refine vg_cV (pc := 9) (As := []) (rest := [V a1]) (mc' := 0) (ms' := 0) (dK D_Mo_matching_0 7 rfl) K_Mo_63 (fitK rfl) (ltK rfl) hc0 rfl (leK rfl) (leK rfl) (leK rfl) (tf_Mo_pageMany hc0 e_p2) (kcI (fun h_p2 => ?_))
  refine vg_icmp_gt (pc := 12) (t := 28) (dK D_Mo_matching_0 8 rfl) rfl ha1 h_p2 (fun hc6 => ?_) (fun hc6 => ?_)
  · replace h := ifP h hc6
    obtain rfl := Option.some.inj h
    refine gL_weak (ls' := [(0, .ref c0)]) (sbc 0 rfl sbn) ?_
    exact hx 
  · replace h := ifN h hc6
    refine g_aloadn (pc := 15) (i0 := 0) (j := 0) (dK D_Mo_matching_0 9 rfl) rfl rfl ?_
    refine vg_getA (pc := 16) (ci := 11) (f := 7) (dK D_Mo_matching_0 10 rfl) q_1449 hc0 (ltK rfl) (ltK rfl) rfl ?_
    refine g_iloadn (pc := 19) (i0 := 1) (j := 1) (dK D_Mo_matching_0 11 rfl) rfl rfl ?_
    refine vg_iconst (pc := 20) (dK D_Mo_matching_0 12 rfl) ?_
    refine gdE h (fun hi3 h => ?_)
    refine nmE h (fun S4 e_S4 h => ?_)
    refine vg_iastore (pc := 21) (z := (-1)) (dK D_Mo_matching_0 13 rfl) (hw_11_7 hc0) rfl hi3 rfl e_S4 ?_
    refine nmE h (fun v5 e_v5 h => ?_)
    refine vg_iinc (pc := 22) (j := 1) (a := a1) (z := 1) (ls2 := [(1, V v5), (0, .ref c0)]) (dK D_Mo_matching_0 14 rfl) rfl e_v5 (ltK rfl) rfl ?_
    refine g_goto (pc := 25) (tgt := 7) (dK D_Mo_matching_0 15 rfl) rfl ?_
    refine gL_weak (ls' := [(0, .ref c0), (1, V v5)]) (sbc 1 rfl (sbc 0 rfl sbn)) ?_
    replace h := ih _ h
    exact h (Vn_in e_v5)
def lb_Mo_matching_42 (c0 : Nat) (a1 : Int) (go : Int × St → Option (St)) (a2 : Int) (S : St) : Option (St) := bnO (fn_Mo_pageMany c0 S) fun p8 => if p8 < a2 then (some S) else (bnO (fn_Mo_reasonOf c0 a1 a2 S) fun p9 => if p9 = 0 then (if 0 ≤ ((65 * a1) + a2) ∧ ((65 * a1) + a2) < 2600 then (nm (u S (tgt c0 10) ((((65 * a1) + a2)).toNat) (i_nz 1)) fun S11 => nm (wr (a2 + 1)) fun v12 => go (v12, S11)) else none) else (bnO (fn_Mo_reasonOf c0 a1 a2 S) fun p13 => if p13 = 6 then (if 0 ≤ ((65 * a1) + a2) ∧ ((65 * a1) + a2) < 2600 then (nm (u S (tgt c0 10) ((((65 * a1) + a2)).toNat) (i_nz 1)) fun S18 => nm (wr (a2 + 1)) fun v19 => go (v19, S18)) else none) else (if 0 ≤ ((65 * a1) + a2) ∧ ((65 * a1) + a2) < 2600 then (nm (u S (tgt c0 10) ((((65 * a1) + a2)).toNat) (i_nz 0)) fun S15 => nm (wr (a2 + 1)) fun v16 => go (v16, S15)) else none)))
def lo_Mo_matching_42 (c0 : Nat) (a1 : Int) : Nat → Int × St → Option (St) := lp fun go p => lb_Mo_matching_42 c0 a1 go p.1 p.2
theorem tl_Mo_matching_42 {E : EV} {X : XT} {c0 : Nat} (hc0 : HC X 11 c0) {a1 : Int} (ha1 : inR a1) {K : RK → PS → Prop} {q : St} (hx : Go E M_Mo_matching 0 0 92 [(0, .ref c0), (1, V a1)] [] (WX X q) 0 0 K) : ∀ n a, lo_Mo_matching_42 c0 a1 n a = some q → inR a.1 → Go E M_Mo_matching 0 0 42 [(0, .ref c0), (1, V a1), (2, V a.1)] [] (WX X a.2) 0 0 K := by
  refine lp_ind (P := fun a : Int × St => inR a.1 → Go E M_Mo_matching 0 0 42 [(0, .ref c0), (1, V a1), (2, V a.1)] [] (WX X a.2) 0 0 K) (fun go ih a h => ?_)
  obtain ⟨a2, S⟩ := a
  intro ha2
  show Go E M_Mo_matching 0 0 42 [(0, .ref c0), (1, V a1), (2, V a2)] [] (WX X S) 0 0 K
  replace h : lb_Mo_matching_42 c0 a1 go a2 S = some q := h
  unfold lb_Mo_matching_42 at h
  refine g_iloadn (pc := 42) (i0 := 2) (j := 2) (dK D_Mo_matching_0 26 rfl) rfl rfl ?_
  refine g_aloadn (pc := 43) (i0 := 0) (j := 0) (dK D_Mo_matching_0 27 rfl) rfl rfl ?_
  refine bnE h (fun p8 e_p8 h => ?_)
  refine vg_cV (pc := 44) (As := []) (rest := [V a2]) (mc' := 0) (ms' := 0) (dK D_Mo_matching_0 28 rfl) K_Mo_63 (fitK rfl) (ltK rfl) hc0 rfl (leK rfl) (leK rfl) (leK rfl) (tf_Mo_pageMany hc0 e_p8) (kcI (fun h_p8 => ?_))
  refine vg_icmp_gt (pc := 47) (t := 92) (dK D_Mo_matching_0 29 rfl) rfl ha2 h_p8 (fun hc22 => ?_) (fun hc22 => ?_)
  · replace h := ifP h hc22
    obtain rfl := Option.some.inj h
    refine gL_weak (ls' := [(0, .ref c0), (1, V a1)]) (sbc 0 rfl (sbc 1 rfl sbn)) ?_
    exact hx 
  · replace h := ifN h hc22
    refine g_aloadn (pc := 50) (i0 := 0) (j := 0) (dK D_Mo_matching_0 30 rfl) rfl rfl ?_
    refine vg_getA (pc := 51) (ci := 11) (f := 10) (dK D_Mo_matching_0 31 rfl) q_1452 hc0 (ltK rfl) (ltK rfl) rfl ?_
    refine vg_bipush (pc := 54) (dK D_Mo_matching_0 32 rfl) rfl ?_
    refine g_iloadn (pc := 56) (i0 := 1) (j := 1) (dK D_Mo_matching_0 33 rfl) rfl rfl ?_
    refine vg_imul (pc := 57) (dK D_Mo_matching_0 34 rfl) ?_
    refine g_iloadn (pc := 58) (i0 := 2) (j := 2) (dK D_Mo_matching_0 35 rfl) rfl rfl ?_
    refine vg_iadd (pc := 59) (dK D_Mo_matching_0 36 rfl) ?_
    refine g_aloadn (pc := 60) (i0 := 0) (j := 0) (dK D_Mo_matching_0 37 rfl) rfl rfl ?_
    refine g_iloadn (pc := 61) (i0 := 1) (j := 1) (dK D_Mo_matching_0 38 rfl) rfl rfl ?_
    refine g_iloadn (pc := 62) (i0 := 2) (j := 2) (dK D_Mo_matching_0 39 rfl) rfl rfl ?_
    refine bnE h (fun p9 e_p9 h => ?_)
    refine vg_cV (pc := 63) (As := [V a1, V a2]) (rest := [V ((65 * a1) + a2), .ref (tgt c0 10)]) (mc' := 0) (ms' := 0) (dK D_Mo_matching_0 40 rfl) K_Mo_129 (fitK rfl) (ltK rfl) hc0 rfl (leK rfl) (leK rfl) (leK rfl) (tf_Mo_reasonOf hc0 ha1 ha2 e_p9) (kcI (fun h_p9 => ?_))
    refine vg_if_eq (pc := 66) (t := 80) (dK D_Mo_matching_0 41 rfl) rfl h_p9 (fun hc21 => ?_) (fun hc21 => ?_)
    · replace h := ifP h hc21
      refine vg_iconst (pc := 80) (dK D_Mo_matching_0 48 rfl) ?_
      refine g_goto (pc := 81) (tgt := 85) (dK D_Mo_matching_0 49 rfl) rfl ?_
      refine gdE h (fun hi10 h => ?_)
      refine nmE h (fun S11 e_S11 h => ?_)
      refine vg_zastore (pc := 85) (z := 1) (dK D_Mo_matching_1 1 rfl) (hw_11_10 hc0) rfl hi10 rfl e_S11 ?_
      refine nmE h (fun v12 e_v12 h => ?_)
      refine vg_iinc (pc := 86) (j := 2) (a := a2) (z := 1) (ls2 := [(2, V v12), (0, .ref c0), (1, V a1)]) (dK D_Mo_matching_1 2 rfl) rfl e_v12 (ltK rfl) rfl ?_
      refine g_goto (pc := 89) (tgt := 42) (dK D_Mo_matching_1 3 rfl) rfl ?_
      refine gL_weak (ls' := [(0, .ref c0), (1, V a1), (2, V v12)]) (sbc 1 rfl (sbc 2 rfl (sbc 0 rfl sbn))) ?_
      replace h := ih _ h
      exact h (Vn_in e_v12)
    · replace h := ifN h hc21
      refine g_aloadn (pc := 69) (i0 := 0) (j := 0) (dK D_Mo_matching_0 42 rfl) rfl rfl ?_
      refine g_iloadn (pc := 70) (i0 := 1) (j := 1) (dK D_Mo_matching_0 43 rfl) rfl rfl ?_
      refine g_iloadn (pc := 71) (i0 := 2) (j := 2) (dK D_Mo_matching_0 44 rfl) rfl rfl ?_
      refine bnE h (fun p13 e_p13 h => ?_)
      refine vg_cV (pc := 72) (As := [V a1, V a2]) (rest := [V ((65 * a1) + a2), .ref (tgt c0 10)]) (mc' := 0) (ms' := 0) (dK D_Mo_matching_0 45 rfl) K_Mo_129 (fitK rfl) (ltK rfl) hc0 rfl (leK rfl) (leK rfl) (leK rfl) (tf_Mo_reasonOf hc0 ha1 ha2 e_p13) (kcI (fun h_p13 => ?_))
      refine vg_bipush (pc := 75) (dK D_Mo_matching_0 46 rfl) rfl ?_
      refine vg_icmp_ne (pc := 77) (t := 84) (dK D_Mo_matching_0 47 rfl) rfl h_p13 (inRk rfl) (fun hc20 => ?_) (fun hc20 => ?_)
      · replace h := ifN h hc20
        refine vg_iconst (pc := 84) (dK D_Mo_matching_1 0 rfl) ?_
        refine gdE h (fun hi14 h => ?_)
        refine nmE h (fun S15 e_S15 h => ?_)
        refine vg_zastore (pc := 85) (z := 0) (dK D_Mo_matching_1 1 rfl) (hw_11_10 hc0) rfl hi14 rfl e_S15 ?_
        refine nmE h (fun v16 e_v16 h => ?_)
        refine vg_iinc (pc := 86) (j := 2) (a := a2) (z := 1) (ls2 := [(2, V v16), (0, .ref c0), (1, V a1)]) (dK D_Mo_matching_1 2 rfl) rfl e_v16 (ltK rfl) rfl ?_
        refine g_goto (pc := 89) (tgt := 42) (dK D_Mo_matching_1 3 rfl) rfl ?_
        refine gL_weak (ls' := [(0, .ref c0), (1, V a1), (2, V v16)]) (sbc 1 rfl (sbc 2 rfl (sbc 0 rfl sbn))) ?_
        replace h := ih _ h
        exact h (Vn_in e_v16)
      · replace h := ifP h hc20
        refine vg_iconst (pc := 80) (dK D_Mo_matching_0 48 rfl) ?_
        refine g_goto (pc := 81) (tgt := 85) (dK D_Mo_matching_0 49 rfl) rfl ?_
        refine gdE h (fun hi17 h => ?_)
        refine nmE h (fun S18 e_S18 h => ?_)
        refine vg_zastore (pc := 85) (z := 1) (dK D_Mo_matching_1 1 rfl) (hw_11_10 hc0) rfl hi17 rfl e_S18 ?_
        refine nmE h (fun v19 e_v19 h => ?_)
        refine vg_iinc (pc := 86) (j := 2) (a := a2) (z := 1) (ls2 := [(2, V v19), (0, .ref c0), (1, V a1)]) (dK D_Mo_matching_1 2 rfl) rfl e_v19 (ltK rfl) rfl ?_
        refine g_goto (pc := 89) (tgt := 42) (dK D_Mo_matching_1 3 rfl) rfl ?_
        refine gL_weak (ls' := [(0, .ref c0), (1, V a1), (2, V v19)]) (sbc 1 rfl (sbc 2 rfl (sbc 0 rfl sbn))) ?_
        replace h := ih _ h
        exact h (Vn_in e_v19)
def lb_Mo_matching_30 (c0 : Nat) (go : Int × St → Option (St)) (a1 : Int) (S : St) : Option (St) := if (g S (tgt c0 0) 1) ≤ a1 then (some S) else (bnO (lo_Mo_matching_42 c0 a1 FU (1, S)) fun p23 => nm (wr (a1 + 1)) fun v24 => go (v24, p23))
def lo_Mo_matching_30 (c0 : Nat) : Nat → Int × St → Option (St) := lp fun go p => lb_Mo_matching_30 c0 go p.1 p.2
theorem tl_Mo_matching_30 {E : EV} {X : XT} {c0 : Nat} (hc0 : HC X 11 c0) {K : RK → PS → Prop} {q : St} (hx : Go E M_Mo_matching 0 0 98 [(0, .ref c0)] [] (WX X q) 0 0 K) : ∀ n a, lo_Mo_matching_30 c0 n a = some q → inR a.1 → Go E M_Mo_matching 0 0 30 [(0, .ref c0), (1, V a.1)] [] (WX X a.2) 0 0 K := by
  refine lp_ind (P := fun a : Int × St => inR a.1 → Go E M_Mo_matching 0 0 30 [(0, .ref c0), (1, V a.1)] [] (WX X a.2) 0 0 K) (fun go ih a h => ?_)
  obtain ⟨a1, S⟩ := a
  intro ha1
  show Go E M_Mo_matching 0 0 30 [(0, .ref c0), (1, V a1)] [] (WX X S) 0 0 K
  replace h : lb_Mo_matching_30 c0 go a1 S = some q := h
  unfold lb_Mo_matching_30 at h
  refine g_iloadn (pc := 30) (i0 := 1) (j := 1) (dK D_Mo_matching_0 18 rfl) rfl rfl ?_
  refine g_aloadn (pc := 31) (i0 := 0) (j := 0) (dK D_Mo_matching_0 19 rfl) rfl rfl ?_
  refine vg_getA (pc := 32) (ci := 11) (f := 0) (dK D_Mo_matching_0 20 rfl) q_1442 hc0 (ltK rfl) (ltK rfl) rfl ?_
  refine vg_iconst (pc := 35) (dK D_Mo_matching_0 21 rfl) ?_
  refine vg_iaload (pc := 36) (j := 1) (dK D_Mo_matching_0 22 rfl) (hw_11_0 hc0) rfl ⟨by decide, by decide⟩ rfl ?_
  refine vg_icmp_ge (pc := 37) (t := 98) (dK D_Mo_matching_0 23 rfl) rfl ha1 (g_in _ _ _) (fun hc25 => ?_) (fun hc25 => ?_)
  · replace h := ifP h hc25
    obtain rfl := Option.some.inj h
    refine gL_weak (ls' := [(0, .ref c0)]) (sbc 0 rfl sbn) ?_
    exact hx 
  · replace h := ifN h hc25
    refine vg_iconst (pc := 40) (dK D_Mo_matching_0 24 rfl) ?_
    refine g_istoren (pc := 41) (i0 := 2) (ls2 := [(2, V 1), (0, .ref c0), (1, V a1)]) (dK D_Mo_matching_0 25 rfl) rfl (ltK rfl) rfl ?_
    refine bnE h (fun p23 e_p23 h => ?_)
    refine gL_weak (ls' := [(0, .ref c0), (1, V a1), (2, V 1)]) (sbc 1 rfl (sbc 2 rfl (sbc 0 rfl sbn))) ?_
    refine tl_Mo_matching_42 hc0 ha1 ?_ FU (1, S) e_p23 (inRk rfl)
    refine nmE h (fun v24 e_v24 h => ?_)
    refine vg_iinc (pc := 92) (j := 1) (a := a1) (z := 1) (ls2 := [(1, V v24), (0, .ref c0)]) (dK D_Mo_matching_1 4 rfl) rfl e_v24 (ltK rfl) rfl ?_
    refine g_goto (pc := 95) (tgt := 30) (dK D_Mo_matching_1 5 rfl) rfl ?_
    refine gL_weak (ls' := [(0, .ref c0), (1, V v24)]) (sbc 1 rfl (sbc 0 rfl sbn)) ?_
    replace h := ih _ h
    exact h (Vn_in e_v24)
def lb_Mo_matching_102 (c0 : Nat) (go : Int × Int × St → Option (Int × St)) (a1 : Int) (a2 : Int) (S : St) : Option (Int × St) := if (g S (tgt c0 0) 1) ≤ a2 then (some (a1, S)) else (bnO (fn_Mo_ofAd c0 a2 0 S) fun p27 => if p27 = 4 then (bnO (fn_Mo_ofAd c0 a2 6 S) fun p29 => if p29 = 0 then (bnO (fn_Mo_joins c0 a2 S) fun p31 => if p31.1 = true then (nm (wr (a1 + 1)) fun v35 => nm (wr (a2 + 1)) fun v36 => go (v35, v36, p31.2)) else (nm (wr (a1 + 0)) fun v33 => nm (wr (a2 + 1)) fun v34 => go (v33, v34, p31.2))) else (nm (wr (a2 + 1)) fun v30 => go (a1, v30, S))) else (nm (wr (a2 + 1)) fun v28 => go (a1, v28, S)))
def lo_Mo_matching_102 (c0 : Nat) : Nat → Int × Int × St → Option (Int × St) := lp fun go p => lb_Mo_matching_102 c0 go p.1 p.2.1 p.2.2
theorem tl_Mo_matching_102 {E : EV} {X : XT} {c0 : Nat} (hc0 : HC X 11 c0) {K : RK → PS → Prop} {q : Int × St} (hx : inR q.1 → Go E M_Mo_matching 0 0 154 [(1, V q.1)] [] (WX X q.2) 0 0 K) : ∀ n a, lo_Mo_matching_102 c0 n a = some q → inR a.1 → inR a.2.1 → Go E M_Mo_matching 0 0 102 [(0, .ref c0), (1, V a.1), (2, V a.2.1)] [] (WX X a.2.2) 0 0 K := by
  refine lp_ind (P := fun a : Int × Int × St => inR a.1 → inR a.2.1 → Go E M_Mo_matching 0 0 102 [(0, .ref c0), (1, V a.1), (2, V a.2.1)] [] (WX X a.2.2) 0 0 K) (fun go ih a h => ?_)
  obtain ⟨a1, a2, S⟩ := a
  intro ha1 ha2
  show Go E M_Mo_matching 0 0 102 [(0, .ref c0), (1, V a1), (2, V a2)] [] (WX X S) 0 0 K
  replace h : lb_Mo_matching_102 c0 go a1 a2 S = some q := h
  unfold lb_Mo_matching_102 at h
  refine g_iloadn (pc := 102) (i0 := 2) (j := 2) (dK D_Mo_matching_1 10 rfl) rfl rfl ?_
  refine g_aloadn (pc := 103) (i0 := 0) (j := 0) (dK D_Mo_matching_1 11 rfl) rfl rfl ?_
  refine vg_getA (pc := 104) (ci := 11) (f := 0) (dK D_Mo_matching_1 12 rfl) q_1442 hc0 (ltK rfl) (ltK rfl) rfl ?_
  refine vg_iconst (pc := 107) (dK D_Mo_matching_1 13 rfl) ?_
  refine vg_iaload (pc := 108) (j := 1) (dK D_Mo_matching_1 14 rfl) (hw_11_0 hc0) rfl ⟨by decide, by decide⟩ rfl ?_
  refine vg_icmp_ge (pc := 109) (t := 154) (dK D_Mo_matching_1 15 rfl) rfl ha2 (g_in _ _ _) (fun hc39 => ?_) (fun hc39 => ?_)
  · replace h := ifP h hc39
    obtain rfl := Option.some.inj h
    refine gL_weak (ls' := [(1, V a1)]) (sbc 1 rfl sbn) ?_
    exact hx ha1
  · replace h := ifN h hc39
    refine g_aloadn (pc := 112) (i0 := 0) (j := 0) (dK D_Mo_matching_1 16 rfl) rfl rfl ?_
    refine g_iloadn (pc := 113) (i0 := 2) (j := 2) (dK D_Mo_matching_1 17 rfl) rfl rfl ?_
    refine vg_iconst (pc := 114) (dK D_Mo_matching_1 18 rfl) ?_
    refine bnE h (fun p27 e_p27 h => ?_)
    refine vg_cV (pc := 115) (As := [V a2, V 0]) (rest := []) (mc' := 0) (ms' := 0) (dK D_Mo_matching_1 19 rfl) K_Mo_82 (fitK rfl) (ltK rfl) hc0 rfl (leK rfl) (leK rfl) (leK rfl) (tf_Mo_ofAd hc0 ha2 (inRk rfl) e_p27) (kcI (fun h_p27 => ?_))
    refine vg_iconst (pc := 118) (dK D_Mo_matching_1 20 rfl) ?_
    refine vg_icmp_ne (pc := 119) (t := 148) (dK D_Mo_matching_1 21 rfl) rfl h_p27 (inRk rfl) (fun hc38 => ?_) (fun hc38 => ?_)
    · replace h := ifN h hc38
      refine nmE h (fun v28 e_v28 h => ?_)
      refine vg_iinc (pc := 148) (j := 2) (a := a2) (z := 1) (ls2 := [(2, V v28), (0, .ref c0), (1, V a1)]) (dK D_Mo_matching_1 37 rfl) rfl e_v28 (ltK rfl) rfl ?_
      refine g_goto (pc := 151) (tgt := 102) (dK D_Mo_matching_1 38 rfl) rfl ?_
      refine gL_weak (ls' := [(0, .ref c0), (1, V a1), (2, V v28)]) (sbc 1 rfl (sbc 2 rfl (sbc 0 rfl sbn))) ?_
      replace h := ih _ h
      exact h ha1 (Vn_in e_v28)
    · replace h := ifP h hc38
      refine g_aloadn (pc := 122) (i0 := 0) (j := 0) (dK D_Mo_matching_1 22 rfl) rfl rfl ?_
      refine g_iloadn (pc := 123) (i0 := 2) (j := 2) (dK D_Mo_matching_1 23 rfl) rfl rfl ?_
      refine vg_bipush (pc := 124) (dK D_Mo_matching_1 24 rfl) rfl ?_
      refine bnE h (fun p29 e_p29 h => ?_)
      refine vg_cV (pc := 126) (As := [V a2, V 6]) (rest := []) (mc' := 0) (ms' := 0) (dK D_Mo_matching_1 25 rfl) K_Mo_82 (fitK rfl) (ltK rfl) hc0 rfl (leK rfl) (leK rfl) (leK rfl) (tf_Mo_ofAd hc0 ha2 (inRk rfl) e_p29) (kcI (fun h_p29 => ?_))
      refine vg_if_ne (pc := 129) (t := 148) (dK D_Mo_matching_1 26 rfl) rfl h_p29 (fun hc37 => ?_) (fun hc37 => ?_)
      · replace h := ifN h hc37
        refine nmE h (fun v30 e_v30 h => ?_)
        refine vg_iinc (pc := 148) (j := 2) (a := a2) (z := 1) (ls2 := [(2, V v30), (0, .ref c0), (1, V a1)]) (dK D_Mo_matching_1 37 rfl) rfl e_v30 (ltK rfl) rfl ?_
        refine g_goto (pc := 151) (tgt := 102) (dK D_Mo_matching_1 38 rfl) rfl ?_
        refine gL_weak (ls' := [(0, .ref c0), (1, V a1), (2, V v30)]) (sbc 1 rfl (sbc 2 rfl (sbc 0 rfl sbn))) ?_
        replace h := ih _ h
        exact h ha1 (Vn_in e_v30)
      · replace h := ifP h hc37
        refine g_iloadn (pc := 132) (i0 := 1) (j := 1) (dK D_Mo_matching_1 27 rfl) rfl rfl ?_
        refine g_aloadn (pc := 133) (i0 := 0) (j := 0) (dK D_Mo_matching_1 28 rfl) rfl rfl ?_
        refine g_iloadn (pc := 134) (i0 := 2) (j := 2) (dK D_Mo_matching_1 29 rfl) rfl rfl ?_
        refine bnE h (fun p31 e_p31 h => ?_)
        refine vg_cV (pc := 135) (As := [V a2]) (rest := [V a1]) (mc' := 0) (ms' := 0) (dK D_Mo_matching_1 30 rfl) K_Mo_267 (fitK rfl) (ltK rfl) hc0 rfl (leK rfl) (leK rfl) (leK rfl) (tf_Mo_joins hc0 ha2 e_p31) (kcB ?_)
        refine vg_ifB_eq (pc := 138) (b := p31.1) (t := 145) (dK D_Mo_matching_1 31 rfl) rfl (fun hc32 => ?_) (fun hc32 => ?_)
        · replace h := ifP h hc32
          refine vg_iconst (pc := 141) (dK D_Mo_matching_1 32 rfl) ?_
          refine g_goto (pc := 142) (tgt := 146) (dK D_Mo_matching_1 33 rfl) rfl ?_
          refine vg_iadd (pc := 146) (dK D_Mo_matching_1 35 rfl) ?_
          refine nmE h (fun v35 e_v35 h => ?_)
          refine gtop e_v35 ?_
          refine g_istoren (pc := 147) (i0 := 1) (ls2 := [(1, V v35), (0, .ref c0), (2, V a2)]) (dK D_Mo_matching_1 36 rfl) rfl (ltK rfl) rfl ?_
          refine nmE h (fun v36 e_v36 h => ?_)
          refine vg_iinc (pc := 148) (j := 2) (a := a2) (z := 1) (ls2 := [(2, V v36), (1, V v35), (0, .ref c0)]) (dK D_Mo_matching_1 37 rfl) rfl e_v36 (ltK rfl) rfl ?_
          refine g_goto (pc := 151) (tgt := 102) (dK D_Mo_matching_1 38 rfl) rfl ?_
          refine gL_weak (ls' := [(0, .ref c0), (1, V v35), (2, V v36)]) (sbc 2 rfl (sbc 1 rfl (sbc 0 rfl sbn))) ?_
          replace h := ih _ h
          exact h (Vn_in e_v35) (Vn_in e_v36)
        · replace h := ifN h hc32
          refine vg_iconst (pc := 145) (dK D_Mo_matching_1 34 rfl) ?_
          refine vg_iadd (pc := 146) (dK D_Mo_matching_1 35 rfl) ?_
          refine nmE h (fun v33 e_v33 h => ?_)
          refine gtop e_v33 ?_
          refine g_istoren (pc := 147) (i0 := 1) (ls2 := [(1, V v33), (0, .ref c0), (2, V a2)]) (dK D_Mo_matching_1 36 rfl) rfl (ltK rfl) rfl ?_
          refine nmE h (fun v34 e_v34 h => ?_)
          refine vg_iinc (pc := 148) (j := 2) (a := a2) (z := 1) (ls2 := [(2, V v34), (1, V v33), (0, .ref c0)]) (dK D_Mo_matching_1 37 rfl) rfl e_v34 (ltK rfl) rfl ?_
          refine g_goto (pc := 151) (tgt := 102) (dK D_Mo_matching_1 38 rfl) rfl ?_
          refine gL_weak (ls' := [(0, .ref c0), (1, V v33), (2, V v34)]) (sbc 2 rfl (sbc 1 rfl (sbc 0 rfl sbn))) ?_
          replace h := ih _ h
          exact h (Vn_in e_v33) (Vn_in e_v34)
def fn_Mo_matching (c0 : Nat) (S : St) : Option (Int × St) := nm (u S c0 4 0) fun S1 => bnO (lo_Mo_matching_7 c0 FU (1, S1)) fun p7 => bnO (lo_Mo_matching_30 c0 FU (0, p7)) fun p26 => bnO (lo_Mo_matching_102 c0 FU (0, 0, p26)) fun p40 => some (p40.1, p40.2)
theorem tf_Mo_matching {E : EV} {X : XT} {c0 : Nat} (hc0 : HC X 11 c0) {S : St} {q : Int × St} (h : fn_Mo_matching c0 S = some q) : Ev E M_Mo_matching [.ref c0] (WX X S) 0 0 (KI X q.1 q.2) := by
  refine Ev.of pn_Mo rfl (leK rfl) ?_
  show Go E M_Mo_matching 0 0 0 [(0, .ref c0)] [] (WX X S) 0 0 (KI X q.1 q.2)
  unfold fn_Mo_matching at h
  refine g_aloadn (pc := 0) (i0 := 0) (j := 0) (dK D_Mo_matching_0 0 rfl) rfl rfl ?_
  refine vg_iconst (pc := 1) (dK D_Mo_matching_0 1 rfl) ?_
  refine nmE h (fun S1 e_S1 h => ?_)
  refine vg_putI (pc := 2) (ci := 11) (f := 4) (z := 0) (dK D_Mo_matching_0 2 rfl) q_1446 hc0 (ltK rfl) (ltK rfl) rfl rfl e_S1 ?_
  refine vg_iconst (pc := 5) (dK D_Mo_matching_0 3 rfl) ?_
  refine g_istoren (pc := 6) (i0 := 1) (ls2 := [(1, V 1), (0, .ref c0)]) (dK D_Mo_matching_0 4 rfl) rfl (ltK rfl) rfl ?_
  refine bnE h (fun p7 e_p7 h => ?_)
  refine gL_weak (ls' := [(0, .ref c0), (1, V 1)]) (sbc 1 rfl (sbc 0 rfl sbn)) ?_
  refine tl_Mo_matching_7 hc0 ?_ FU (1, S1) e_p7 (inRk rfl)
  refine vg_iconst (pc := 28) (dK D_Mo_matching_0 16 rfl) ?_
  refine g_istoren (pc := 29) (i0 := 1) (ls2 := [(1, V 0), (0, .ref c0)]) (dK D_Mo_matching_0 17 rfl) rfl (ltK rfl) rfl ?_
  refine bnE h (fun p26 e_p26 h => ?_)
  refine gL_weak (ls' := [(0, .ref c0), (1, V 0)]) (sbc 1 rfl (sbc 0 rfl sbn)) ?_
  refine tl_Mo_matching_30 hc0 ?_ FU (0, p7) e_p26 (inRk rfl)
  refine vg_iconst (pc := 98) (dK D_Mo_matching_1 6 rfl) ?_
  refine g_istoren (pc := 99) (i0 := 1) (ls2 := [(1, V 0), (0, .ref c0)]) (dK D_Mo_matching_1 7 rfl) rfl (ltK rfl) rfl ?_
  refine vg_iconst (pc := 100) (dK D_Mo_matching_1 8 rfl) ?_
  refine g_istoren (pc := 101) (i0 := 2) (ls2 := [(2, V 0), (1, V 0), (0, .ref c0)]) (dK D_Mo_matching_1 9 rfl) rfl (ltK rfl) rfl ?_
  refine bnE h (fun p40 e_p40 h => ?_)
  refine gL_weak (ls' := [(0, .ref c0), (1, V 0), (2, V 0)]) (sbc 2 rfl (sbc 1 rfl (sbc 0 rfl sbn))) ?_
  refine tl_Mo_matching_102 hc0 (fun hx1_p40 => ?_) FU (0, 0, p26) e_p40 (inRk rfl) (inRk rfl)
  refine g_iloadn (pc := 154) (i0 := 1) (j := 0) (dK D_Mo_matching_1 39 rfl) rfl rfl ?_
  exact vg_iretI (pc := 155) (r := p40.1) (dK D_Mo_matching_1 40 rfl) rfl (leK rfl) (leK rfl) (fun _ => rfl) (by obtain rfl := Option.some.inj h; exact ⟨rfl, hx1_p40, rfl⟩)
def lb_Mo_bestColor_59 (c0 : Nat) (a1 : Int) (a2 : Int) (a3 : Int) (a4 : Int) (S : St) (go : Int × Int × Int → Option (Int × Int)) (a5 : Int) (a6 : Int) (a7 : Int) : Option (Int × Int) := bnO (fn_Mo_formMany c0 S) fun p7 => if p7 ≤ a7 then (some (a5, a6)) else (if (i_and (i_shr a4 a7) 1) = 0 then (nm (wr (a7 + 1)) fun v24 => go (a5, a6, v24)) else (bnO (fn_Mo_ofForm c0 a7 1 S) fun p8 => if p8 = 0 then (bnO (fn_Mo_ofForm c0 a7 0 S) fun p13 => if p13 = 0 then (nm (wr (a5 + 1)) fun v18 => bnO (fn_Mo_leftOnForm c0 a7 S) fun p19 => nm (wr (a6 + p19)) fun v20 => nm (wr (a7 + 1)) fun v21 => go (v18, v20, v21)) else (nm (wr (a5 + 1000000)) fun v14 => bnO (fn_Mo_leftOnForm c0 a7 S) fun p15 => nm (wr (a6 + p15)) fun v16 => nm (wr (a7 + 1)) fun v17 => go (v14, v16, v17))) else (nm (wr (a5 + 1000000)) fun v9 => bnO (fn_Mo_leftOnForm c0 a7 S) fun p10 => nm (wr (a6 + p10)) fun v11 => nm (wr (a7 + 1)) fun v12 => go (v9, v11, v12))))
def lo_Mo_bestColor_59 (c0 : Nat) (a1 : Int) (a2 : Int) (a3 : Int) (a4 : Int) (S : St) : Nat → Int × Int × Int → Option (Int × Int) := lp fun go p => lb_Mo_bestColor_59 c0 a1 a2 a3 a4 S go p.1 p.2.1 p.2.2
set_option maxHeartbeats 20000000 in
theorem tl_Mo_bestColor_59 {E : EV} {X : XT} {c0 : Nat} (hc0 : HC X 11 c0) {a1 : Int} (ha1 : inR a1) {a2 : Int} (ha2 : inR a2) {a3 : Int} (ha3 : inR a3) {a4 : Int} (ha4 : inR a4) {S : St} {K : RK → PS → Prop} {q : Int × Int} (hx : inR q.1 → inR q.2 → Go E M_Mo_bestColor 0 0 129 [(0, .ref c0), (1, V a1), (2, V a2), (3, V a3), (4, V a4), (5, V q.1), (6, V q.2)] [] (WX X S) 0 0 K) : ∀ n a, lo_Mo_bestColor_59 c0 a1 a2 a3 a4 S n a = some q → inR a.1 → inR a.2.1 → inR a.2.2 → Go E M_Mo_bestColor 0 0 59 [(0, .ref c0), (1, V a1), (2, V a2), (3, V a3), (4, V a4), (5, V a.1), (6, V a.2.1), (7, V a.2.2)] [] (WX X S) 0 0 K := by
  refine lp_ind (P := fun a : Int × Int × Int => inR a.1 → inR a.2.1 → inR a.2.2 → Go E M_Mo_bestColor 0 0 59 [(0, .ref c0), (1, V a1), (2, V a2), (3, V a3), (4, V a4), (5, V a.1), (6, V a.2.1), (7, V a.2.2)] [] (WX X S) 0 0 K) (fun go ih a h => ?_)
  obtain ⟨a5, a6, a7⟩ := a
  intro ha5 ha6 ha7
  show Go E M_Mo_bestColor 0 0 59 [(0, .ref c0), (1, V a1), (2, V a2), (3, V a3), (4, V a4), (5, V a5), (6, V a6), (7, V a7)] [] (WX X S) 0 0 K
  replace h : lb_Mo_bestColor_59 c0 a1 a2 a3 a4 S go a5 a6 a7 = some q := h
  unfold lb_Mo_bestColor_59 at h
  refine g_iload (pc := 59) (j := 7) (dK D_Mo_bestColor_0 36 rfl) rfl ?_
  refine g_aloadn (pc := 61) (i0 := 0) (j := 0) (dK D_Mo_bestColor_0 37 rfl) rfl rfl ?_
  refine bnE h (fun p7 e_p7 h => ?_)
  refine vg_cV (pc := 62) (As := []) (rest := [V a7]) (mc' := 0) (ms' := 0) (dK D_Mo_bestColor_0 38 rfl) K_Mo_71 (fitK rfl) (ltK rfl) hc0 rfl (leK rfl) (leK rfl) (leK rfl) (tf_Mo_formMany hc0 e_p7) (kcI (fun h_p7 => ?_))
  refine vg_icmp_ge (pc := 65) (t := 129) (dK D_Mo_bestColor_0 39 rfl) rfl ha7 h_p7 (fun hc26 => ?_) (fun hc26 => ?_)
  · replace h := ifP h hc26
    obtain rfl := Option.some.inj h
    refine gL_weak (ls' := [(0, .ref c0), (1, V a1), (2, V a2), (3, V a3), (4, V a4), (5, V a5), (6, V a6)]) (sbc 0 rfl (sbc 1 rfl (sbc 2 rfl (sbc 3 rfl (sbc 4 rfl (sbc 5 rfl (sbc 6 rfl sbn))))))) ?_
    exact hx ha5 ha6
  · replace h := ifN h hc26
    refine g_iload (pc := 68) (j := 4) (dK D_Mo_bestColor_0 40 rfl) rfl ?_
    refine g_iload (pc := 70) (j := 7) (dK D_Mo_bestColor_0 41 rfl) rfl ?_
    refine vg_ishr (pc := 72) (dK D_Mo_bestColor_0 42 rfl) ?_
    refine vg_iconst (pc := 73) (dK D_Mo_bestColor_0 43 rfl) ?_
    refine vg_iand (pc := 74) (dK D_Mo_bestColor_0 44 rfl) ?_
    refine vg_if_ne (pc := 75) (t := 81) (dK D_Mo_bestColor_0 45 rfl) rfl (toInt_in _) (fun hc25 => ?_) (fun hc25 => ?_)
    · replace h := ifN h hc25
      refine g_iload (pc := 81) (j := 5) (dK D_Mo_bestColor_0 47 rfl) rfl ?_
      refine g_aloadn (pc := 83) (i0 := 0) (j := 0) (dK D_Mo_bestColor_0 48 rfl) rfl rfl ?_
      refine g_iload (pc := 84) (j := 7) (dK D_Mo_bestColor_0 49 rfl) rfl ?_
      refine vg_iconst (pc := 86) (dK D_Mo_bestColor_1 0 rfl) ?_
      refine bnE h (fun p8 e_p8 h => ?_)
      refine vg_cV (pc := 87) (As := [V a7, V 1]) (rest := [V a5]) (mc' := 0) (ms' := 0) (dK D_Mo_bestColor_1 1 rfl) K_Mo_78 (fitK rfl) (ltK rfl) hc0 rfl (leK rfl) (leK rfl) (leK rfl) (tf_Mo_ofForm hc0 ha7 (inRk rfl) e_p8) (kcI (fun h_p8 => ?_))
      refine vg_if_ne (pc := 90) (t := 107) (dK D_Mo_bestColor_1 2 rfl) rfl h_p8 (fun hc23 => ?_) (fun hc23 => ?_)
      · replace h := ifN h hc23
        refine vg_ldc (pc := 107) (y := 1000000) (dK D_Mo_bestColor_1 10 rfl) q_1616 rfl ?_
        refine vg_iadd (pc := 109) (dK D_Mo_bestColor_1 11 rfl) ?_
        refine nmE h (fun v9 e_v9 h => ?_)
        refine gtop e_v9 ?_
        refine g_istore (pc := 110) (ls2 := [(5, V v9), (0, .ref c0), (1, V a1), (2, V a2), (3, V a3), (4, V a4), (6, V a6), (7, V a7)]) (dK D_Mo_bestColor_1 12 rfl) (ltK rfl) rfl ?_
        refine g_iload (pc := 112) (j := 6) (dK D_Mo_bestColor_1 13 rfl) rfl ?_
        refine g_aloadn (pc := 114) (i0 := 0) (j := 1) (dK D_Mo_bestColor_1 14 rfl) rfl rfl ?_
        refine g_iload (pc := 115) (j := 7) (dK D_Mo_bestColor_1 15 rfl) rfl ?_
        refine bnE h (fun p10 e_p10 h => ?_)
        refine vg_cV (pc := 117) (As := [V a7]) (rest := [V a6]) (mc' := 0) (ms' := 0) (dK D_Mo_bestColor_1 16 rfl) K_Mo_202 (fitK rfl) (ltK rfl) hc0 rfl (leK rfl) (leK rfl) (leK rfl) (tf_Mo_leftOnForm hc0 ha7 e_p10) (kcI (fun h_p10 => ?_))
        refine vg_iadd (pc := 120) (dK D_Mo_bestColor_1 17 rfl) ?_
        refine nmE h (fun v11 e_v11 h => ?_)
        refine gtop e_v11 ?_
        refine g_istore (pc := 121) (ls2 := [(6, V v11), (5, V v9), (0, .ref c0), (1, V a1), (2, V a2), (3, V a3), (4, V a4), (7, V a7)]) (dK D_Mo_bestColor_1 18 rfl) (ltK rfl) rfl ?_
        refine nmE h (fun v12 e_v12 h => ?_)
        refine vg_iinc (pc := 123) (j := 7) (a := a7) (z := 1) (ls2 := [(7, V v12), (6, V v11), (5, V v9), (0, .ref c0), (1, V a1), (2, V a2), (3, V a3), (4, V a4)]) (dK D_Mo_bestColor_1 19 rfl) rfl e_v12 (ltK rfl) rfl ?_
        refine g_goto (pc := 126) (tgt := 59) (dK D_Mo_bestColor_1 20 rfl) rfl ?_
        refine gL_weak (ls' := [(0, .ref c0), (1, V a1), (2, V a2), (3, V a3), (4, V a4), (5, V v9), (6, V v11), (7, V v12)]) (sbc 3 rfl (sbc 4 rfl (sbc 5 rfl (sbc 6 rfl (sbc 7 rfl (sbc 2 rfl (sbc 1 rfl (sbc 0 rfl sbn)))))))) ?_
        replace h := ih _ h
        exact h (Vn_in e_v9) (Vn_in e_v11) (Vn_in e_v12)
      · replace h := ifP h hc23
        refine g_aloadn (pc := 93) (i0 := 0) (j := 0) (dK D_Mo_bestColor_1 3 rfl) rfl rfl ?_
        refine g_iload (pc := 94) (j := 7) (dK D_Mo_bestColor_1 4 rfl) rfl ?_
        refine vg_iconst (pc := 96) (dK D_Mo_bestColor_1 5 rfl) ?_
        refine bnE h (fun p13 e_p13 h => ?_)
        refine vg_cV (pc := 97) (As := [V a7, V 0]) (rest := [V a5]) (mc' := 0) (ms' := 0) (dK D_Mo_bestColor_1 6 rfl) K_Mo_78 (fitK rfl) (ltK rfl) hc0 rfl (leK rfl) (leK rfl) (leK rfl) (tf_Mo_ofForm hc0 ha7 (inRk rfl) e_p13) (kcI (fun h_p13 => ?_))
        refine vg_if_ne (pc := 100) (t := 107) (dK D_Mo_bestColor_1 7 rfl) rfl h_p13 (fun hc22 => ?_) (fun hc22 => ?_)
        · replace h := ifN h hc22
          refine vg_ldc (pc := 107) (y := 1000000) (dK D_Mo_bestColor_1 10 rfl) q_1616 rfl ?_
          refine vg_iadd (pc := 109) (dK D_Mo_bestColor_1 11 rfl) ?_
          refine nmE h (fun v14 e_v14 h => ?_)
          refine gtop e_v14 ?_
          refine g_istore (pc := 110) (ls2 := [(5, V v14), (0, .ref c0), (1, V a1), (2, V a2), (3, V a3), (4, V a4), (6, V a6), (7, V a7)]) (dK D_Mo_bestColor_1 12 rfl) (ltK rfl) rfl ?_
          refine g_iload (pc := 112) (j := 6) (dK D_Mo_bestColor_1 13 rfl) rfl ?_
          refine g_aloadn (pc := 114) (i0 := 0) (j := 1) (dK D_Mo_bestColor_1 14 rfl) rfl rfl ?_
          refine g_iload (pc := 115) (j := 7) (dK D_Mo_bestColor_1 15 rfl) rfl ?_
          refine bnE h (fun p15 e_p15 h => ?_)
          refine vg_cV (pc := 117) (As := [V a7]) (rest := [V a6]) (mc' := 0) (ms' := 0) (dK D_Mo_bestColor_1 16 rfl) K_Mo_202 (fitK rfl) (ltK rfl) hc0 rfl (leK rfl) (leK rfl) (leK rfl) (tf_Mo_leftOnForm hc0 ha7 e_p15) (kcI (fun h_p15 => ?_))
          refine vg_iadd (pc := 120) (dK D_Mo_bestColor_1 17 rfl) ?_
          refine nmE h (fun v16 e_v16 h => ?_)
          refine gtop e_v16 ?_
          refine g_istore (pc := 121) (ls2 := [(6, V v16), (5, V v14), (0, .ref c0), (1, V a1), (2, V a2), (3, V a3), (4, V a4), (7, V a7)]) (dK D_Mo_bestColor_1 18 rfl) (ltK rfl) rfl ?_
          refine nmE h (fun v17 e_v17 h => ?_)
          refine vg_iinc (pc := 123) (j := 7) (a := a7) (z := 1) (ls2 := [(7, V v17), (6, V v16), (5, V v14), (0, .ref c0), (1, V a1), (2, V a2), (3, V a3), (4, V a4)]) (dK D_Mo_bestColor_1 19 rfl) rfl e_v17 (ltK rfl) rfl ?_
          refine g_goto (pc := 126) (tgt := 59) (dK D_Mo_bestColor_1 20 rfl) rfl ?_
          refine gL_weak (ls' := [(0, .ref c0), (1, V a1), (2, V a2), (3, V a3), (4, V a4), (5, V v14), (6, V v16), (7, V v17)]) (sbc 3 rfl (sbc 4 rfl (sbc 5 rfl (sbc 6 rfl (sbc 7 rfl (sbc 2 rfl (sbc 1 rfl (sbc 0 rfl sbn)))))))) ?_
          replace h := ih _ h
          exact h (Vn_in e_v14) (Vn_in e_v16) (Vn_in e_v17)
        · replace h := ifP h hc22
          refine vg_iconst (pc := 103) (dK D_Mo_bestColor_1 8 rfl) ?_
          refine g_goto (pc := 104) (tgt := 109) (dK D_Mo_bestColor_1 9 rfl) rfl ?_
          refine vg_iadd (pc := 109) (dK D_Mo_bestColor_1 11 rfl) ?_
          refine nmE h (fun v18 e_v18 h => ?_)
          refine gtop e_v18 ?_
          refine g_istore (pc := 110) (ls2 := [(5, V v18), (0, .ref c0), (1, V a1), (2, V a2), (3, V a3), (4, V a4), (6, V a6), (7, V a7)]) (dK D_Mo_bestColor_1 12 rfl) (ltK rfl) rfl ?_
          refine g_iload (pc := 112) (j := 6) (dK D_Mo_bestColor_1 13 rfl) rfl ?_
          refine g_aloadn (pc := 114) (i0 := 0) (j := 1) (dK D_Mo_bestColor_1 14 rfl) rfl rfl ?_
          refine g_iload (pc := 115) (j := 7) (dK D_Mo_bestColor_1 15 rfl) rfl ?_
          refine bnE h (fun p19 e_p19 h => ?_)
          refine vg_cV (pc := 117) (As := [V a7]) (rest := [V a6]) (mc' := 0) (ms' := 0) (dK D_Mo_bestColor_1 16 rfl) K_Mo_202 (fitK rfl) (ltK rfl) hc0 rfl (leK rfl) (leK rfl) (leK rfl) (tf_Mo_leftOnForm hc0 ha7 e_p19) (kcI (fun h_p19 => ?_))
          refine vg_iadd (pc := 120) (dK D_Mo_bestColor_1 17 rfl) ?_
          refine nmE h (fun v20 e_v20 h => ?_)
          refine gtop e_v20 ?_
          refine g_istore (pc := 121) (ls2 := [(6, V v20), (5, V v18), (0, .ref c0), (1, V a1), (2, V a2), (3, V a3), (4, V a4), (7, V a7)]) (dK D_Mo_bestColor_1 18 rfl) (ltK rfl) rfl ?_
          refine nmE h (fun v21 e_v21 h => ?_)
          refine vg_iinc (pc := 123) (j := 7) (a := a7) (z := 1) (ls2 := [(7, V v21), (6, V v20), (5, V v18), (0, .ref c0), (1, V a1), (2, V a2), (3, V a3), (4, V a4)]) (dK D_Mo_bestColor_1 19 rfl) rfl e_v21 (ltK rfl) rfl ?_
          refine g_goto (pc := 126) (tgt := 59) (dK D_Mo_bestColor_1 20 rfl) rfl ?_
          refine gL_weak (ls' := [(0, .ref c0), (1, V a1), (2, V a2), (3, V a3), (4, V a4), (5, V v18), (6, V v20), (7, V v21)]) (sbc 3 rfl (sbc 4 rfl (sbc 5 rfl (sbc 6 rfl (sbc 7 rfl (sbc 2 rfl (sbc 1 rfl (sbc 0 rfl sbn)))))))) ?_
          replace h := ih _ h
          exact h (Vn_in e_v18) (Vn_in e_v20) (Vn_in e_v21)
    · replace h := ifP h hc25
      refine g_goto (pc := 78) (tgt := 123) (dK D_Mo_bestColor_0 46 rfl) rfl ?_
      refine nmE h (fun v24 e_v24 h => ?_)
      refine vg_iinc (pc := 123) (j := 7) (a := a7) (z := 1) (ls2 := [(7, V v24), (0, .ref c0), (1, V a1), (2, V a2), (3, V a3), (4, V a4), (5, V a5), (6, V a6)]) (dK D_Mo_bestColor_1 19 rfl) rfl e_v24 (ltK rfl) rfl ?_
      refine g_goto (pc := 126) (tgt := 59) (dK D_Mo_bestColor_1 20 rfl) rfl ?_
      refine gL_weak (ls' := [(0, .ref c0), (1, V a1), (2, V a2), (3, V a3), (4, V a4), (5, V a5), (6, V a6), (7, V v24)]) (sbc 1 rfl (sbc 2 rfl (sbc 3 rfl (sbc 4 rfl (sbc 5 rfl (sbc 6 rfl (sbc 7 rfl (sbc 0 rfl sbn)))))))) ?_
      replace h := ih _ h
      exact h ha5 ha6 (Vn_in e_v24)
def lb_Mo_bestColor_39 (c0 : Nat) (a1 : Int) (S : St) (go : Int × Int × Int → Option (Int)) (a2 : Int) (a3 : Int) (a4 : Int) : Option (Int) := bnO (fn_Mo_formMany c0 S) fun p6 => if (i_shl 1 p6) ≤ a4 then (some a2) else (bnO (lo_Mo_bestColor_59 c0 a1 a2 a3 a4 S FU (0, 0, 0)) fun p27 => if p27.1 = a1 then (if a3 < p27.2 then (nm (wr (a4 + 1)) fun v29 => go (a4, p27.2, v29)) else (nm (wr (a4 + 1)) fun v30 => go (a2, a3, v30))) else (nm (wr (a4 + 1)) fun v28 => go (a2, a3, v28)))
def lo_Mo_bestColor_39 (c0 : Nat) (a1 : Int) (S : St) : Nat → Int × Int × Int → Option (Int) := lp fun go p => lb_Mo_bestColor_39 c0 a1 S go p.1 p.2.1 p.2.2
theorem tl_Mo_bestColor_39 {E : EV} {X : XT} {c0 : Nat} (hc0 : HC X 11 c0) {a1 : Int} (ha1 : inR a1) {S : St} {K : RK → PS → Prop} {q : Int} (hx : inR q → Go E M_Mo_bestColor 0 0 156 [(2, V q)] [] (WX X S) 0 0 K) : ∀ n a, lo_Mo_bestColor_39 c0 a1 S n a = some q → inR a.1 → inR a.2.1 → inR a.2.2 → Go E M_Mo_bestColor 0 0 39 [(0, .ref c0), (1, V a1), (2, V a.1), (3, V a.2.1), (4, V a.2.2)] [] (WX X S) 0 0 K := by
  refine lp_ind (P := fun a : Int × Int × Int => inR a.1 → inR a.2.1 → inR a.2.2 → Go E M_Mo_bestColor 0 0 39 [(0, .ref c0), (1, V a1), (2, V a.1), (3, V a.2.1), (4, V a.2.2)] [] (WX X S) 0 0 K) (fun go ih a h => ?_)
  obtain ⟨a2, a3, a4⟩ := a
  intro ha2 ha3 ha4
  show Go E M_Mo_bestColor 0 0 39 [(0, .ref c0), (1, V a1), (2, V a2), (3, V a3), (4, V a4)] [] (WX X S) 0 0 K
  replace h : lb_Mo_bestColor_39 c0 a1 S go a2 a3 a4 = some q := h
  unfold lb_Mo_bestColor_39 at h
  refine g_iload (pc := 39) (j := 4) (dK D_Mo_bestColor_0 24 rfl) rfl ?_
  refine vg_iconst (pc := 41) (dK D_Mo_bestColor_0 25 rfl) ?_
  refine g_aloadn (pc := 42) (i0 := 0) (j := 0) (dK D_Mo_bestColor_0 26 rfl) rfl rfl ?_
  refine bnE h (fun p6 e_p6 h => ?_)
  refine vg_cV (pc := 43) (As := []) (rest := [V 1, V a4]) (mc' := 0) (ms' := 0) (dK D_Mo_bestColor_0 27 rfl) K_Mo_71 (fitK rfl) (ltK rfl) hc0 rfl (leK rfl) (leK rfl) (leK rfl) (tf_Mo_formMany hc0 e_p6) (kcI (fun h_p6 => ?_))
  refine vg_ishl (pc := 46) (dK D_Mo_bestColor_0 28 rfl) ?_
  refine vg_icmp_ge (pc := 47) (t := 156) (dK D_Mo_bestColor_0 29 rfl) rfl ha4 (toInt_in _) (fun hc33 => ?_) (fun hc33 => ?_)
  · replace h := ifP h hc33
    obtain rfl := Option.some.inj h
    refine gL_weak (ls' := [(2, V a2)]) (sbc 2 rfl sbn) ?_
    exact hx ha2
  · replace h := ifN h hc33
    refine vg_iconst (pc := 50) (dK D_Mo_bestColor_0 30 rfl) ?_
    refine g_istore (pc := 51) (ls2 := [(5, V 0), (0, .ref c0), (1, V a1), (2, V a2), (3, V a3), (4, V a4)]) (dK D_Mo_bestColor_0 31 rfl) (ltK rfl) rfl ?_
    refine vg_iconst (pc := 53) (dK D_Mo_bestColor_0 32 rfl) ?_
    refine g_istore (pc := 54) (ls2 := [(6, V 0), (5, V 0), (0, .ref c0), (1, V a1), (2, V a2), (3, V a3), (4, V a4)]) (dK D_Mo_bestColor_0 33 rfl) (ltK rfl) rfl ?_
    refine vg_iconst (pc := 56) (dK D_Mo_bestColor_0 34 rfl) ?_
    refine g_istore (pc := 57) (ls2 := [(7, V 0), (6, V 0), (5, V 0), (0, .ref c0), (1, V a1), (2, V a2), (3, V a3), (4, V a4)]) (dK D_Mo_bestColor_0 35 rfl) (ltK rfl) rfl ?_
    refine bnE h (fun p27 e_p27 h => ?_)
    refine gL_weak (ls' := [(0, .ref c0), (1, V a1), (2, V a2), (3, V a3), (4, V a4), (5, V 0), (6, V 0), (7, V 0)]) (sbc 3 rfl (sbc 4 rfl (sbc 5 rfl (sbc 6 rfl (sbc 7 rfl (sbc 2 rfl (sbc 1 rfl (sbc 0 rfl sbn)))))))) ?_
    refine tl_Mo_bestColor_59 hc0 ha1 ha2 ha3 ha4 (fun hx5_p27 hx6_p27 => ?_) FU (0, 0, 0) e_p27 (inRk rfl) (inRk rfl) (inRk rfl)
    refine g_iload (pc := 129) (j := 5) (dK D_Mo_bestColor_1 21 rfl) rfl ?_
    refine g_iloadn (pc := 131) (i0 := 1) (j := 1) (dK D_Mo_bestColor_1 22 rfl) rfl rfl ?_
    refine vg_icmp_ne (pc := 132) (t := 150) (dK D_Mo_bestColor_1 23 rfl) rfl hx5_p27 ha1 (fun hc32 => ?_) (fun hc32 => ?_)
    · replace h := ifN h hc32
      refine nmE h (fun v28 e_v28 h => ?_)
      refine vg_iinc (pc := 150) (j := 4) (a := a4) (z := 1) (ls2 := [(4, V v28), (0, .ref c0), (1, V a1), (2, V a2), (3, V a3), (5, V p27.1), (6, V p27.2)]) (dK D_Mo_bestColor_1 32 rfl) rfl e_v28 (ltK rfl) rfl ?_
      refine g_goto (pc := 153) (tgt := 39) (dK D_Mo_bestColor_1 33 rfl) rfl ?_
      refine gL_weak (ls' := [(0, .ref c0), (1, V a1), (2, V a2), (3, V a3), (4, V v28)]) (sbc 1 rfl (sbc 2 rfl (sbc 3 rfl (sbc 4 rfl (sbc 0 rfl sbn))))) ?_
      replace h := ih _ h
      exact h ha2 ha3 (Vn_in e_v28)
    · replace h := ifP h hc32
      refine g_iload (pc := 135) (j := 6) (dK D_Mo_bestColor_1 24 rfl) rfl ?_
      refine g_iloadn (pc := 137) (i0 := 3) (j := 3) (dK D_Mo_bestColor_1 25 rfl) rfl rfl ?_
      refine vg_icmp_gt (pc := 138) (t := 144) (dK D_Mo_bestColor_1 26 rfl) rfl hx6_p27 ha3 (fun hc31 => ?_) (fun hc31 => ?_)
      · replace h := ifP h hc31
        refine g_iload (pc := 144) (j := 4) (dK D_Mo_bestColor_1 28 rfl) rfl ?_
        refine g_istoren (pc := 146) (i0 := 2) (ls2 := [(2, V a4), (0, .ref c0), (1, V a1), (3, V a3), (4, V a4), (5, V p27.1), (6, V p27.2)]) (dK D_Mo_bestColor_1 29 rfl) rfl (ltK rfl) rfl ?_
        refine g_iload (pc := 147) (j := 6) (dK D_Mo_bestColor_1 30 rfl) rfl ?_
        refine g_istoren (pc := 149) (i0 := 3) (ls2 := [(3, V p27.2), (2, V a4), (0, .ref c0), (1, V a1), (4, V a4), (5, V p27.1), (6, V p27.2)]) (dK D_Mo_bestColor_1 31 rfl) rfl (ltK rfl) rfl ?_
        refine nmE h (fun v29 e_v29 h => ?_)
        refine vg_iinc (pc := 150) (j := 4) (a := a4) (z := 1) (ls2 := [(4, V v29), (3, V p27.2), (2, V a4), (0, .ref c0), (1, V a1), (5, V p27.1), (6, V p27.2)]) (dK D_Mo_bestColor_1 32 rfl) rfl e_v29 (ltK rfl) rfl ?_
        refine g_goto (pc := 153) (tgt := 39) (dK D_Mo_bestColor_1 33 rfl) rfl ?_
        refine gL_weak (ls' := [(0, .ref c0), (1, V a1), (2, V a4), (3, V p27.2), (4, V v29)]) (sbc 3 rfl (sbc 4 rfl (sbc 2 rfl (sbc 1 rfl (sbc 0 rfl sbn))))) ?_
        replace h := ih _ h
        exact h ha4 hx6_p27 (Vn_in e_v29)
      · replace h := ifN h hc31
        refine g_goto (pc := 141) (tgt := 150) (dK D_Mo_bestColor_1 27 rfl) rfl ?_
        refine nmE h (fun v30 e_v30 h => ?_)
        refine vg_iinc (pc := 150) (j := 4) (a := a4) (z := 1) (ls2 := [(4, V v30), (0, .ref c0), (1, V a1), (2, V a2), (3, V a3), (5, V p27.1), (6, V p27.2)]) (dK D_Mo_bestColor_1 32 rfl) rfl e_v30 (ltK rfl) rfl ?_
        refine g_goto (pc := 153) (tgt := 39) (dK D_Mo_bestColor_1 33 rfl) rfl ?_
        refine gL_weak (ls' := [(0, .ref c0), (1, V a1), (2, V a2), (3, V a3), (4, V v30)]) (sbc 1 rfl (sbc 2 rfl (sbc 3 rfl (sbc 4 rfl (sbc 0 rfl sbn))))) ?_
        replace h := ih _ h
        exact h ha2 ha3 (Vn_in e_v30)
def fn_Mo_bestColor (c0 : Nat) (a1 : Int) (S : St) : Option (Int × St) := nm (u S c0 4 0) fun S1 => bnO (fn_Mo_inRange a1 1 8 S1) fun p2 => if p2 = true then (bnO (fn_Mo_throwsIf c0 0 1 S1) fun p4 => if p4.1 = true then (some (0, p4.2)) else (bnO (lo_Mo_bestColor_39 c0 a1 p4.2 FU (0, (-1), 1)) fun p34 => some (p34, p4.2))) else (bnO (fn_Mo_throwsIf c0 1 1 S1) fun p35 => if p35.1 = true then (some (0, p35.2)) else (bnO (lo_Mo_bestColor_39 c0 a1 p35.2 FU (0, (-1), 1)) fun p37 => some (p37, p35.2)))
theorem tf_Mo_bestColor {E : EV} {X : XT} {c0 : Nat} (hc0 : HC X 11 c0) {a1 : Int} (ha1 : inR a1) {S : St} {q : Int × St} (h : fn_Mo_bestColor c0 a1 S = some q) : Ev E M_Mo_bestColor [.ref c0, V a1] (WX X S) 0 0 (KI X q.1 q.2) := by
  refine Ev.of pn_Mo rfl (leK rfl) ?_
  show Go E M_Mo_bestColor 0 0 0 [(0, .ref c0), (1, V a1)] [] (WX X S) 0 0 (KI X q.1 q.2)
  unfold fn_Mo_bestColor at h
  refine g_aloadn (pc := 0) (i0 := 0) (j := 0) (dK D_Mo_bestColor_0 0 rfl) rfl rfl ?_
  refine vg_iconst (pc := 1) (dK D_Mo_bestColor_0 1 rfl) ?_
  refine nmE h (fun S1 e_S1 h => ?_)
  refine vg_putI (pc := 2) (ci := 11) (f := 4) (z := 0) (dK D_Mo_bestColor_0 2 rfl) q_1446 hc0 (ltK rfl) (ltK rfl) rfl rfl e_S1 ?_
  refine g_aloadn (pc := 5) (i0 := 0) (j := 0) (dK D_Mo_bestColor_0 3 rfl) rfl rfl ?_
  refine g_iloadn (pc := 6) (i0 := 1) (j := 1) (dK D_Mo_bestColor_0 4 rfl) rfl rfl ?_
  refine vg_i2l (pc := 7) (dK D_Mo_bestColor_0 5 rfl) ha1 ?_
  refine vg_lconst (pc := 8) (y := 1) (dK D_Mo_bestColor_0 6 rfl) rfl ?_
  refine vg_ldc2 (pc := 9) (y := 8) (dK D_Mo_bestColor_0 7 rfl) q_1917 rfl ?_
  refine bnE h (fun p2 e_p2 h => ?_)
  refine vg_cS (pc := 12) (As := [J a1, J 1, J 8]) (rest := [.ref c0]) (mc' := 0) (ms' := 0) (dK D_Mo_bestColor_0 8 rfl) K_Mo_67 (fitK rfl) rfl (leK rfl) (leK rfl) (leK rfl) (tf_Mo_inRange (inR_L ha1) (inLk rfl) (inLk rfl) e_p2) (kcB ?_)
  refine vg_ifB_ne (pc := 15) (b := p2) (t := 22) (dK D_Mo_bestColor_0 9 rfl) rfl (fun hc3 => ?_) (fun hc3 => ?_)
  · replace h := ifP h hc3
    refine vg_iconst (pc := 22) (dK D_Mo_bestColor_0 12 rfl) ?_
    refine vg_iconst (pc := 23) (dK D_Mo_bestColor_0 13 rfl) ?_
    refine bnE h (fun p4 e_p4 h => ?_)
    refine vg_cV (pc := 24) (As := [V 0, V 1]) (rest := []) (mc' := 0) (ms' := 0) (dK D_Mo_bestColor_0 14 rfl) K_Mo_125 (fitK rfl) (ltK rfl) hc0 rfl (leK rfl) (leK rfl) (leK rfl) (tf_Mo_throwsIf hc0 (inRk rfl) (inRk rfl) e_p4) (kcB ?_)
    refine vg_ifB_eq (pc := 27) (b := p4.1) (t := 32) (dK D_Mo_bestColor_0 15 rfl) rfl (fun hc5 => ?_) (fun hc5 => ?_)
    · replace h := ifP h hc5
      refine vg_iconst (pc := 30) (dK D_Mo_bestColor_0 16 rfl) ?_
      exact vg_iretI (pc := 31) (r := 0) (dK D_Mo_bestColor_0 17 rfl) rfl (leK rfl) (leK rfl) (fun _ => rfl) (by obtain rfl := Option.some.inj h; exact ⟨rfl, (inRk rfl), rfl⟩)
    · replace h := ifN h hc5
      refine vg_iconst (pc := 32) (dK D_Mo_bestColor_0 18 rfl) ?_
      refine g_istoren (pc := 33) (i0 := 2) (ls2 := [(2, V 0), (0, .ref c0), (1, V a1)]) (dK D_Mo_bestColor_0 19 rfl) rfl (ltK rfl) rfl ?_
      refine vg_iconst (pc := 34) (dK D_Mo_bestColor_0 20 rfl) ?_
      refine g_istoren (pc := 35) (i0 := 3) (ls2 := [(3, V (-1)), (2, V 0), (0, .ref c0), (1, V a1)]) (dK D_Mo_bestColor_0 21 rfl) rfl (ltK rfl) rfl ?_
      refine vg_iconst (pc := 36) (dK D_Mo_bestColor_0 22 rfl) ?_
      refine g_istore (pc := 37) (ls2 := [(4, V 1), (3, V (-1)), (2, V 0), (0, .ref c0), (1, V a1)]) (dK D_Mo_bestColor_0 23 rfl) (ltK rfl) rfl ?_
      refine bnE h (fun p34 e_p34 h => ?_)
      refine gL_weak (ls' := [(0, .ref c0), (1, V a1), (2, V 0), (3, V (-1)), (4, V 1)]) (sbc 3 rfl (sbc 4 rfl (sbc 2 rfl (sbc 1 rfl (sbc 0 rfl sbn))))) ?_
      refine tl_Mo_bestColor_39 hc0 ha1 (fun hx2_p34 => ?_) FU (0, (-1), 1) e_p34 (inRk rfl) (inRk rfl) (inRk rfl)
      refine g_iloadn (pc := 156) (i0 := 2) (j := 0) (dK D_Mo_bestColor_1 34 rfl) rfl rfl ?_
      exact vg_iretI (pc := 157) (r := p34) (dK D_Mo_bestColor_1 35 rfl) rfl (leK rfl) (leK rfl) (fun _ => rfl) (by obtain rfl := Option.some.inj h; exact ⟨rfl, hx2_p34, rfl⟩)
  · replace h := ifN h hc3
    refine vg_iconst (pc := 18) (dK D_Mo_bestColor_0 10 rfl) ?_
    refine g_goto (pc := 19) (tgt := 23) (dK D_Mo_bestColor_0 11 rfl) rfl ?_
    refine vg_iconst (pc := 23) (dK D_Mo_bestColor_0 13 rfl) ?_
    refine bnE h (fun p35 e_p35 h => ?_)
    refine vg_cV (pc := 24) (As := [V 1, V 1]) (rest := []) (mc' := 0) (ms' := 0) (dK D_Mo_bestColor_0 14 rfl) K_Mo_125 (fitK rfl) (ltK rfl) hc0 rfl (leK rfl) (leK rfl) (leK rfl) (tf_Mo_throwsIf hc0 (inRk rfl) (inRk rfl) e_p35) (kcB ?_)
    refine vg_ifB_eq (pc := 27) (b := p35.1) (t := 32) (dK D_Mo_bestColor_0 15 rfl) rfl (fun hc36 => ?_) (fun hc36 => ?_)
    · replace h := ifP h hc36
      refine vg_iconst (pc := 30) (dK D_Mo_bestColor_0 16 rfl) ?_
      exact vg_iretI (pc := 31) (r := 0) (dK D_Mo_bestColor_0 17 rfl) rfl (leK rfl) (leK rfl) (fun _ => rfl) (by obtain rfl := Option.some.inj h; exact ⟨rfl, (inRk rfl), rfl⟩)
    · replace h := ifN h hc36
      refine vg_iconst (pc := 32) (dK D_Mo_bestColor_0 18 rfl) ?_
      refine g_istoren (pc := 33) (i0 := 2) (ls2 := [(2, V 0), (0, .ref c0), (1, V a1)]) (dK D_Mo_bestColor_0 19 rfl) rfl (ltK rfl) rfl ?_
      refine vg_iconst (pc := 34) (dK D_Mo_bestColor_0 20 rfl) ?_
      refine g_istoren (pc := 35) (i0 := 3) (ls2 := [(3, V (-1)), (2, V 0), (0, .ref c0), (1, V a1)]) (dK D_Mo_bestColor_0 21 rfl) rfl (ltK rfl) rfl ?_
      refine vg_iconst (pc := 36) (dK D_Mo_bestColor_0 22 rfl) ?_
      refine g_istore (pc := 37) (ls2 := [(4, V 1), (3, V (-1)), (2, V 0), (0, .ref c0), (1, V a1)]) (dK D_Mo_bestColor_0 23 rfl) (ltK rfl) rfl ?_
      refine bnE h (fun p37 e_p37 h => ?_)
      refine gL_weak (ls' := [(0, .ref c0), (1, V a1), (2, V 0), (3, V (-1)), (4, V 1)]) (sbc 3 rfl (sbc 4 rfl (sbc 2 rfl (sbc 1 rfl (sbc 0 rfl sbn))))) ?_
      refine tl_Mo_bestColor_39 hc0 ha1 (fun hx2_p37 => ?_) FU (0, (-1), 1) e_p37 (inRk rfl) (inRk rfl) (inRk rfl)
      refine g_iloadn (pc := 156) (i0 := 2) (j := 0) (dK D_Mo_bestColor_1 34 rfl) rfl rfl ?_
      exact vg_iretI (pc := 157) (r := p37) (dK D_Mo_bestColor_1 35 rfl) rfl (leK rfl) (leK rfl) (fun _ => rfl) (by obtain rfl := Option.some.inj h; exact ⟨rfl, hx2_p37, rfl⟩)
def jf_Mo_nearRivals_79 (c0 : Nat) (a2 : Int) (S : St) (go : Int × Int → Option (Int)) (a1 : Int) (a3 : Int) : Option (Int) := nm (wr (a1 + 0)) fun v3 => nm (wr (a3 + 1)) fun v4 => go (v3, v4)
theorem tj_Mo_nearRivals_79 {E : EV} {X : XT} {c0 : Nat} (hc0 : HC X 11 c0) {a2 : Int} (ha2 : inR a2) {S : St} {K : RK → PS → Prop} {q : Int} (hx : inR q → Go E M_Mo_nearRivals 0 0 124 [(0, .ref c0), (1, V q), (2, V a2)] [] (WX X S) 0 0 K) {go : Int × Int → Option (Int)} (ih : ∀ a, go a = some q → inR a.1 → inR a.2 → Go E M_Mo_nearRivals 0 0 21 [(0, .ref c0), (1, V a.1), (2, V a2), (3, V a.2)] [] (WX X S) 0 0 K) {a1 : Int} (ha1 : inR a1) {a3 : Int} (ha3 : inR a3) (h : jf_Mo_nearRivals_79 c0 a2 S go a1 a3 = some q) : Go E M_Mo_nearRivals 0 0 79 [(0, .ref c0), (1, V a1), (2, V a2), (3, V a3)] [] (WX X S) 0 0 K := by
  unfold jf_Mo_nearRivals_79 at h
  refine vg_iconst (pc := 79) (dK D_Mo_nearRivals_0 47 rfl) ?_
  refine g_istore (pc := 80) (ls2 := [(4, V 0), (0, .ref c0), (1, V a1), (2, V a2), (3, V a3)]) (dK D_Mo_nearRivals_0 48 rfl) (ltK rfl) rfl ?_
  refine g_iloadn (pc := 82) (i0 := 1) (j := 2) (dK D_Mo_nearRivals_0 49 rfl) rfl rfl ?_
  refine g_iload (pc := 83) (j := 0) (dK D_Mo_nearRivals_1 0 rfl) rfl ?_
  refine vg_if_eq (pc := 85) (t := 115) (dK D_Mo_nearRivals_1 1 rfl) rfl (inRk rfl) (fun _ => ?_) (fun hc => absurd hc (by decide))
  refine vg_iconst (pc := 115) (dK D_Mo_nearRivals_1 19 rfl) ?_
  refine vg_iadd (pc := 116) (dK D_Mo_nearRivals_1 20 rfl) ?_
  refine nmE h (fun v3 e_v3 h => ?_)
  refine gtop e_v3 ?_
  refine g_istoren (pc := 117) (i0 := 1) (ls2 := [(1, V v3), (4, V 0), (0, .ref c0), (2, V a2), (3, V a3)]) (dK D_Mo_nearRivals_1 21 rfl) rfl (ltK rfl) rfl ?_
  refine nmE h (fun v4 e_v4 h => ?_)
  refine vg_iinc (pc := 118) (j := 4) (a := a3) (z := 1) (ls2 := [(3, V v4), (1, V v3), (4, V 0), (0, .ref c0), (2, V a2)]) (dK D_Mo_nearRivals_1 22 rfl) rfl e_v4 (ltK rfl) rfl ?_
  refine g_goto (pc := 121) (tgt := 21) (dK D_Mo_nearRivals_1 23 rfl) rfl ?_
  refine gL_weak (ls' := [(0, .ref c0), (1, V v3), (2, V a2), (3, V v4)]) (sbc 3 rfl (sbc 1 rfl (sbc 4 rfl (sbc 0 rfl sbn)))) ?_
  replace h := ih _ h
  exact h (Vn_in e_v3) (Vn_in e_v4)
def lb_Mo_nearRivals_21 (c0 : Nat) (a2 : Int) (S : St) (go : Int × Int → Option (Int)) (a1 : Int) (a3 : Int) : Option (Int) := if (g S (tgt c0 0) 1) ≤ a3 then (some a1) else (bnO (fn_Mo_ofAd c0 a2 6 S) fun p2 => if p2 ≤ 0 then (jf_Mo_nearRivals_79 c0 a2 S go a1 a3) else (bnO (fn_Mo_ofAd c0 a3 6 S) fun p5 => if p5 ≤ 0 then (jf_Mo_nearRivals_79 c0 a2 S go a1 a3) else (bnO (fn_Mo_ofAd c0 a2 1 S) fun p6 => if p6 = 0 then (jf_Mo_nearRivals_79 c0 a2 S go a1 a3) else (bnO (fn_Mo_ofAd c0 a2 1 S) fun p7 => bnO (fn_Mo_ofAd c0 a3 1 S) fun p8 => if p7 = p8 then (bnO (fn_Mo_ofAd c0 a3 6 S) fun p9 => bnO (fn_Mo_ofAd c0 a2 6 S) fun p10 => nm (wr ((p9.tdiv 2) - (p10.tdiv 2))) fun v11 => if v11 = 1 then (nm (wr (a1 + 1)) fun v14 => nm (wr (a3 + 1)) fun v15 => go (v14, v15)) else (nm (wr (a1 + 0)) fun v12 => nm (wr (a3 + 1)) fun v13 => go (v12, v13))) else (jf_Mo_nearRivals_79 c0 a2 S go a1 a3)))))
def lo_Mo_nearRivals_21 (c0 : Nat) (a2 : Int) (S : St) : Nat → Int × Int → Option (Int) := lp fun go p => lb_Mo_nearRivals_21 c0 a2 S go p.1 p.2
set_option maxHeartbeats 20000000 in
theorem tl_Mo_nearRivals_21 {E : EV} {X : XT} {c0 : Nat} (hc0 : HC X 11 c0) {a2 : Int} (ha2 : inR a2) {S : St} {K : RK → PS → Prop} {q : Int} (hx : inR q → Go E M_Mo_nearRivals 0 0 124 [(0, .ref c0), (1, V q), (2, V a2)] [] (WX X S) 0 0 K) : ∀ n a, lo_Mo_nearRivals_21 c0 a2 S n a = some q → inR a.1 → inR a.2 → Go E M_Mo_nearRivals 0 0 21 [(0, .ref c0), (1, V a.1), (2, V a2), (3, V a.2)] [] (WX X S) 0 0 K := by
  refine lp_ind (P := fun a : Int × Int => inR a.1 → inR a.2 → Go E M_Mo_nearRivals 0 0 21 [(0, .ref c0), (1, V a.1), (2, V a2), (3, V a.2)] [] (WX X S) 0 0 K) (fun go ih a h => ?_)
  obtain ⟨a1, a3⟩ := a
  intro ha1 ha3
  show Go E M_Mo_nearRivals 0 0 21 [(0, .ref c0), (1, V a1), (2, V a2), (3, V a3)] [] (WX X S) 0 0 K
  replace h : lb_Mo_nearRivals_21 c0 a2 S go a1 a3 = some q := h
  unfold lb_Mo_nearRivals_21 at h
  refine g_iloadn (pc := 21) (i0 := 3) (j := 3) (dK D_Mo_nearRivals_0 15 rfl) rfl rfl ?_
  refine g_aloadn (pc := 22) (i0 := 0) (j := 0) (dK D_Mo_nearRivals_0 16 rfl) rfl rfl ?_
  refine vg_getA (pc := 23) (ci := 11) (f := 0) (dK D_Mo_nearRivals_0 17 rfl) q_1442 hc0 (ltK rfl) (ltK rfl) rfl ?_
  refine vg_iconst (pc := 26) (dK D_Mo_nearRivals_0 18 rfl) ?_
  refine vg_iaload (pc := 27) (j := 1) (dK D_Mo_nearRivals_0 19 rfl) (hw_11_0 hc0) rfl ⟨by decide, by decide⟩ rfl ?_
  refine vg_icmp_ge (pc := 28) (t := 124) (dK D_Mo_nearRivals_0 20 rfl) rfl ha3 (g_in _ _ _) (fun hc21 => ?_) (fun hc21 => ?_)
  · replace h := ifP h hc21
    obtain rfl := Option.some.inj h
    refine gL_weak (ls' := [(0, .ref c0), (1, V a1), (2, V a2)]) (sbc 0 rfl (sbc 1 rfl (sbc 2 rfl sbn))) ?_
    exact hx ha1
  · replace h := ifN h hc21
    refine g_aloadn (pc := 31) (i0 := 0) (j := 0) (dK D_Mo_nearRivals_0 21 rfl) rfl rfl ?_
    refine g_iloadn (pc := 32) (i0 := 2) (j := 2) (dK D_Mo_nearRivals_0 22 rfl) rfl rfl ?_
    refine vg_bipush (pc := 33) (dK D_Mo_nearRivals_0 23 rfl) rfl ?_
    refine bnE h (fun p2 e_p2 h => ?_)
    refine vg_cV (pc := 35) (As := [V a2, V 6]) (rest := []) (mc' := 0) (ms' := 0) (dK D_Mo_nearRivals_0 24 rfl) K_Mo_82 (fitK rfl) (ltK rfl) hc0 rfl (leK rfl) (leK rfl) (leK rfl) (tf_Mo_ofAd hc0 ha2 (inRk rfl) e_p2) (kcI (fun h_p2 => ?_))
    refine vg_if_le (pc := 38) (t := 79) (dK D_Mo_nearRivals_0 25 rfl) rfl h_p2 (fun hc20 => ?_) (fun hc20 => ?_)
    · replace h := ifP h hc20
      exact tj_Mo_nearRivals_79 hc0 ha2 hx ih ha1 ha3 h
    · replace h := ifN h hc20
      refine g_aloadn (pc := 41) (i0 := 0) (j := 0) (dK D_Mo_nearRivals_0 26 rfl) rfl rfl ?_
      refine g_iloadn (pc := 42) (i0 := 3) (j := 3) (dK D_Mo_nearRivals_0 27 rfl) rfl rfl ?_
      refine vg_bipush (pc := 43) (dK D_Mo_nearRivals_0 28 rfl) rfl ?_
      refine bnE h (fun p5 e_p5 h => ?_)
      refine vg_cV (pc := 45) (As := [V a3, V 6]) (rest := []) (mc' := 0) (ms' := 0) (dK D_Mo_nearRivals_0 29 rfl) K_Mo_82 (fitK rfl) (ltK rfl) hc0 rfl (leK rfl) (leK rfl) (leK rfl) (tf_Mo_ofAd hc0 ha3 (inRk rfl) e_p5) (kcI (fun h_p5 => ?_))
      refine vg_if_le (pc := 48) (t := 79) (dK D_Mo_nearRivals_0 30 rfl) rfl h_p5 (fun hc19 => ?_) (fun hc19 => ?_)
      · replace h := ifP h hc19
        exact tj_Mo_nearRivals_79 hc0 ha2 hx ih ha1 ha3 h
      · replace h := ifN h hc19
        refine g_aloadn (pc := 51) (i0 := 0) (j := 0) (dK D_Mo_nearRivals_0 31 rfl) rfl rfl ?_
        refine g_iloadn (pc := 52) (i0 := 2) (j := 2) (dK D_Mo_nearRivals_0 32 rfl) rfl rfl ?_
        refine vg_iconst (pc := 53) (dK D_Mo_nearRivals_0 33 rfl) ?_
        refine bnE h (fun p6 e_p6 h => ?_)
        refine vg_cV (pc := 54) (As := [V a2, V 1]) (rest := []) (mc' := 0) (ms' := 0) (dK D_Mo_nearRivals_0 34 rfl) K_Mo_82 (fitK rfl) (ltK rfl) hc0 rfl (leK rfl) (leK rfl) (leK rfl) (tf_Mo_ofAd hc0 ha2 (inRk rfl) e_p6) (kcI (fun h_p6 => ?_))
        refine vg_if_eq (pc := 57) (t := 79) (dK D_Mo_nearRivals_0 35 rfl) rfl h_p6 (fun hc18 => ?_) (fun hc18 => ?_)
        · replace h := ifP h hc18
          exact tj_Mo_nearRivals_79 hc0 ha2 hx ih ha1 ha3 h
        · replace h := ifN h hc18
          refine g_aloadn (pc := 60) (i0 := 0) (j := 0) (dK D_Mo_nearRivals_0 36 rfl) rfl rfl ?_
          refine g_iloadn (pc := 61) (i0 := 2) (j := 2) (dK D_Mo_nearRivals_0 37 rfl) rfl rfl ?_
          refine vg_iconst (pc := 62) (dK D_Mo_nearRivals_0 38 rfl) ?_
          refine bnE h (fun p7 e_p7 h => ?_)
          refine vg_cV (pc := 63) (As := [V a2, V 1]) (rest := []) (mc' := 0) (ms' := 0) (dK D_Mo_nearRivals_0 39 rfl) K_Mo_82 (fitK rfl) (ltK rfl) hc0 rfl (leK rfl) (leK rfl) (leK rfl) (tf_Mo_ofAd hc0 ha2 (inRk rfl) e_p7) (kcI (fun h_p7 => ?_))
          refine g_aloadn (pc := 66) (i0 := 0) (j := 0) (dK D_Mo_nearRivals_0 40 rfl) rfl rfl ?_
          refine g_iloadn (pc := 67) (i0 := 3) (j := 3) (dK D_Mo_nearRivals_0 41 rfl) rfl rfl ?_
          refine vg_iconst (pc := 68) (dK D_Mo_nearRivals_0 42 rfl) ?_
          refine bnE h (fun p8 e_p8 h => ?_)
          refine vg_cV (pc := 69) (As := [V a3, V 1]) (rest := [V p7]) (mc' := 0) (ms' := 0) (dK D_Mo_nearRivals_0 43 rfl) K_Mo_82 (fitK rfl) (ltK rfl) hc0 rfl (leK rfl) (leK rfl) (leK rfl) (tf_Mo_ofAd hc0 ha3 (inRk rfl) e_p8) (kcI (fun h_p8 => ?_))
          refine vg_icmp_ne (pc := 72) (t := 79) (dK D_Mo_nearRivals_0 44 rfl) rfl h_p7 h_p8 (fun hc17 => ?_) (fun hc17 => ?_)
          · replace h := ifN h hc17
            exact tj_Mo_nearRivals_79 hc0 ha2 hx ih ha1 ha3 h
          · replace h := ifP h hc17
            refine vg_iconst (pc := 75) (dK D_Mo_nearRivals_0 45 rfl) ?_
            refine g_goto (pc := 76) (tgt := 80) (dK D_Mo_nearRivals_0 46 rfl) rfl ?_
            refine g_istore (pc := 80) (ls2 := [(4, V 1), (0, .ref c0), (1, V a1), (2, V a2), (3, V a3)]) (dK D_Mo_nearRivals_0 48 rfl) (ltK rfl) rfl ?_
            refine g_iloadn (pc := 82) (i0 := 1) (j := 2) (dK D_Mo_nearRivals_0 49 rfl) rfl rfl ?_
            refine g_iload (pc := 83) (j := 0) (dK D_Mo_nearRivals_1 0 rfl) rfl ?_
            refine vg_if_eq (pc := 85) (t := 115) (dK D_Mo_nearRivals_1 1 rfl) rfl (inRk rfl) (fun hc => absurd hc (by decide)) (fun _ => ?_)
            refine g_aloadn (pc := 88) (i0 := 0) (j := 1) (dK D_Mo_nearRivals_1 2 rfl) rfl rfl ?_
            refine g_iloadn (pc := 89) (i0 := 3) (j := 4) (dK D_Mo_nearRivals_1 3 rfl) rfl rfl ?_
            refine vg_bipush (pc := 90) (dK D_Mo_nearRivals_1 4 rfl) rfl ?_
            refine bnE h (fun p9 e_p9 h => ?_)
            refine vg_cV (pc := 92) (As := [V a3, V 6]) (rest := [V a1]) (mc' := 0) (ms' := 0) (dK D_Mo_nearRivals_1 5 rfl) K_Mo_82 (fitK rfl) (ltK rfl) hc0 rfl (leK rfl) (leK rfl) (leK rfl) (tf_Mo_ofAd hc0 ha3 (inRk rfl) e_p9) (kcI (fun h_p9 => ?_))
            refine vg_iconst (pc := 95) (dK D_Mo_nearRivals_1 6 rfl) ?_
            refine vg_idiv (pc := 96) (dK D_Mo_nearRivals_1 7 rfl) h_p9 (inRk rfl) (by decide) ?_
            refine g_aloadn (pc := 97) (i0 := 0) (j := 1) (dK D_Mo_nearRivals_1 8 rfl) rfl rfl ?_
            refine g_iloadn (pc := 98) (i0 := 2) (j := 3) (dK D_Mo_nearRivals_1 9 rfl) rfl rfl ?_
            refine vg_bipush (pc := 99) (dK D_Mo_nearRivals_1 10 rfl) rfl ?_
            refine bnE h (fun p10 e_p10 h => ?_)
            refine vg_cV (pc := 101) (As := [V a2, V 6]) (rest := [V (p9.tdiv 2), V a1]) (mc' := 0) (ms' := 0) (dK D_Mo_nearRivals_1 11 rfl) K_Mo_82 (fitK rfl) (ltK rfl) hc0 rfl (leK rfl) (leK rfl) (leK rfl) (tf_Mo_ofAd hc0 ha2 (inRk rfl) e_p10) (kcI (fun h_p10 => ?_))
            refine vg_iconst (pc := 104) (dK D_Mo_nearRivals_1 12 rfl) ?_
            refine vg_idiv (pc := 105) (dK D_Mo_nearRivals_1 13 rfl) h_p10 (inRk rfl) (by decide) ?_
            refine vg_isub (pc := 106) (dK D_Mo_nearRivals_1 14 rfl) ?_
            refine vg_iconst (pc := 107) (dK D_Mo_nearRivals_1 15 rfl) ?_
            refine nmE h (fun v11 e_v11 h => ?_)
            refine gsk (st' := [V 1, V v11, V a1]) (by rw [Vn e_v11]) ?_
            refine vg_icmp_ne (pc := 108) (t := 115) (dK D_Mo_nearRivals_1 16 rfl) rfl (Vn_in e_v11) (inRk rfl) (fun hc16 => ?_) (fun hc16 => ?_)
            · replace h := ifN h hc16
              refine vg_iconst (pc := 115) (dK D_Mo_nearRivals_1 19 rfl) ?_
              refine vg_iadd (pc := 116) (dK D_Mo_nearRivals_1 20 rfl) ?_
              refine nmE h (fun v12 e_v12 h => ?_)
              refine gtop e_v12 ?_
              refine g_istoren (pc := 117) (i0 := 1) (ls2 := [(1, V v12), (4, V 1), (0, .ref c0), (2, V a2), (3, V a3)]) (dK D_Mo_nearRivals_1 21 rfl) rfl (ltK rfl) rfl ?_
              refine nmE h (fun v13 e_v13 h => ?_)
              refine vg_iinc (pc := 118) (j := 4) (a := a3) (z := 1) (ls2 := [(3, V v13), (1, V v12), (4, V 1), (0, .ref c0), (2, V a2)]) (dK D_Mo_nearRivals_1 22 rfl) rfl e_v13 (ltK rfl) rfl ?_
              refine g_goto (pc := 121) (tgt := 21) (dK D_Mo_nearRivals_1 23 rfl) rfl ?_
              refine gL_weak (ls' := [(0, .ref c0), (1, V v12), (2, V a2), (3, V v13)]) (sbc 3 rfl (sbc 1 rfl (sbc 4 rfl (sbc 0 rfl sbn)))) ?_
              replace h := ih _ h
              exact h (Vn_in e_v12) (Vn_in e_v13)
            · replace h := ifP h hc16
              refine vg_iconst (pc := 111) (dK D_Mo_nearRivals_1 17 rfl) ?_
              refine g_goto (pc := 112) (tgt := 116) (dK D_Mo_nearRivals_1 18 rfl) rfl ?_
              refine vg_iadd (pc := 116) (dK D_Mo_nearRivals_1 20 rfl) ?_
              refine nmE h (fun v14 e_v14 h => ?_)
              refine gtop e_v14 ?_
              refine g_istoren (pc := 117) (i0 := 1) (ls2 := [(1, V v14), (4, V 1), (0, .ref c0), (2, V a2), (3, V a3)]) (dK D_Mo_nearRivals_1 21 rfl) rfl (ltK rfl) rfl ?_
              refine nmE h (fun v15 e_v15 h => ?_)
              refine vg_iinc (pc := 118) (j := 4) (a := a3) (z := 1) (ls2 := [(3, V v15), (1, V v14), (4, V 1), (0, .ref c0), (2, V a2)]) (dK D_Mo_nearRivals_1 22 rfl) rfl e_v15 (ltK rfl) rfl ?_
              refine g_goto (pc := 121) (tgt := 21) (dK D_Mo_nearRivals_1 23 rfl) rfl ?_
              refine gL_weak (ls' := [(0, .ref c0), (1, V v14), (2, V a2), (3, V v15)]) (sbc 3 rfl (sbc 1 rfl (sbc 4 rfl (sbc 0 rfl sbn)))) ?_
              replace h := ih _ h
              exact h (Vn_in e_v14) (Vn_in e_v15)
def lb_Mo_nearRivals_9 (c0 : Nat) (S : St) (go : Int × Int → Option (Int)) (a1 : Int) (a2 : Int) : Option (Int) := if (g S (tgt c0 0) 1) ≤ a2 then (some a1) else (bnO (lo_Mo_nearRivals_21 c0 a2 S FU (a1, 0)) fun p22 => nm (wr (a2 + 1)) fun v23 => go (p22, v23))
def lo_Mo_nearRivals_9 (c0 : Nat) (S : St) : Nat → Int × Int → Option (Int) := lp fun go p => lb_Mo_nearRivals_9 c0 S go p.1 p.2
theorem tl_Mo_nearRivals_9 {E : EV} {X : XT} {c0 : Nat} (hc0 : HC X 11 c0) {S : St} {K : RK → PS → Prop} {q : Int} (hx : inR q → Go E M_Mo_nearRivals 0 0 130 [(1, V q)] [] (WX X S) 0 0 K) : ∀ n a, lo_Mo_nearRivals_9 c0 S n a = some q → inR a.1 → inR a.2 → Go E M_Mo_nearRivals 0 0 9 [(0, .ref c0), (1, V a.1), (2, V a.2)] [] (WX X S) 0 0 K := by
  refine lp_ind (P := fun a : Int × Int => inR a.1 → inR a.2 → Go E M_Mo_nearRivals 0 0 9 [(0, .ref c0), (1, V a.1), (2, V a.2)] [] (WX X S) 0 0 K) (fun go ih a h => ?_)
  obtain ⟨a1, a2⟩ := a
  intro ha1 ha2
  show Go E M_Mo_nearRivals 0 0 9 [(0, .ref c0), (1, V a1), (2, V a2)] [] (WX X S) 0 0 K
  replace h : lb_Mo_nearRivals_9 c0 S go a1 a2 = some q := h
  unfold lb_Mo_nearRivals_9 at h
  refine g_iloadn (pc := 9) (i0 := 2) (j := 2) (dK D_Mo_nearRivals_0 7 rfl) rfl rfl ?_
  refine g_aloadn (pc := 10) (i0 := 0) (j := 0) (dK D_Mo_nearRivals_0 8 rfl) rfl rfl ?_
  refine vg_getA (pc := 11) (ci := 11) (f := 0) (dK D_Mo_nearRivals_0 9 rfl) q_1442 hc0 (ltK rfl) (ltK rfl) rfl ?_
  refine vg_iconst (pc := 14) (dK D_Mo_nearRivals_0 10 rfl) ?_
  refine vg_iaload (pc := 15) (j := 1) (dK D_Mo_nearRivals_0 11 rfl) (hw_11_0 hc0) rfl ⟨by decide, by decide⟩ rfl ?_
  refine vg_icmp_ge (pc := 16) (t := 130) (dK D_Mo_nearRivals_0 12 rfl) rfl ha2 (g_in _ _ _) (fun hc24 => ?_) (fun hc24 => ?_)
  · replace h := ifP h hc24
    obtain rfl := Option.some.inj h
    refine gL_weak (ls' := [(1, V a1)]) (sbc 1 rfl sbn) ?_
    exact hx ha1
  · replace h := ifN h hc24
    refine vg_iconst (pc := 19) (dK D_Mo_nearRivals_0 13 rfl) ?_
    refine g_istoren (pc := 20) (i0 := 3) (ls2 := [(3, V 0), (0, .ref c0), (1, V a1), (2, V a2)]) (dK D_Mo_nearRivals_0 14 rfl) rfl (ltK rfl) rfl ?_
    refine bnE h (fun p22 e_p22 h => ?_)
    refine gL_weak (ls' := [(0, .ref c0), (1, V a1), (2, V a2), (3, V 0)]) (sbc 1 rfl (sbc 2 rfl (sbc 3 rfl (sbc 0 rfl sbn)))) ?_
    refine tl_Mo_nearRivals_21 hc0 ha2 (fun hx1_p22 => ?_) FU (a1, 0) e_p22 ha1 (inRk rfl)
    refine nmE h (fun v23 e_v23 h => ?_)
    refine vg_iinc (pc := 124) (j := 2) (a := a2) (z := 1) (ls2 := [(2, V v23), (0, .ref c0), (1, V p22)]) (dK D_Mo_nearRivals_1 24 rfl) rfl e_v23 (ltK rfl) rfl ?_
    refine g_goto (pc := 127) (tgt := 9) (dK D_Mo_nearRivals_1 25 rfl) rfl ?_
    refine gL_weak (ls' := [(0, .ref c0), (1, V p22), (2, V v23)]) (sbc 1 rfl (sbc 2 rfl (sbc 0 rfl sbn))) ?_
    replace h := ih _ h
    exact h hx1_p22 (Vn_in e_v23)
def fn_Mo_nearRivals (c0 : Nat) (S : St) : Option (Int × St) := nm (u S c0 4 0) fun S1 => bnO (lo_Mo_nearRivals_9 c0 S1 FU (0, 0)) fun p25 => some (p25, S1)
theorem tf_Mo_nearRivals {E : EV} {X : XT} {c0 : Nat} (hc0 : HC X 11 c0) {S : St} {q : Int × St} (h : fn_Mo_nearRivals c0 S = some q) : Ev E M_Mo_nearRivals [.ref c0] (WX X S) 0 0 (KI X q.1 q.2) := by
  refine Ev.of pn_Mo rfl (leK rfl) ?_
  show Go E M_Mo_nearRivals 0 0 0 [(0, .ref c0)] [] (WX X S) 0 0 (KI X q.1 q.2)
  unfold fn_Mo_nearRivals at h
  refine g_aloadn (pc := 0) (i0 := 0) (j := 0) (dK D_Mo_nearRivals_0 0 rfl) rfl rfl ?_
  refine vg_iconst (pc := 1) (dK D_Mo_nearRivals_0 1 rfl) ?_
  refine nmE h (fun S1 e_S1 h => ?_)
  refine vg_putI (pc := 2) (ci := 11) (f := 4) (z := 0) (dK D_Mo_nearRivals_0 2 rfl) q_1446 hc0 (ltK rfl) (ltK rfl) rfl rfl e_S1 ?_
  refine vg_iconst (pc := 5) (dK D_Mo_nearRivals_0 3 rfl) ?_
  refine g_istoren (pc := 6) (i0 := 1) (ls2 := [(1, V 0), (0, .ref c0)]) (dK D_Mo_nearRivals_0 4 rfl) rfl (ltK rfl) rfl ?_
  refine vg_iconst (pc := 7) (dK D_Mo_nearRivals_0 5 rfl) ?_
  refine g_istoren (pc := 8) (i0 := 2) (ls2 := [(2, V 0), (1, V 0), (0, .ref c0)]) (dK D_Mo_nearRivals_0 6 rfl) rfl (ltK rfl) rfl ?_
  refine bnE h (fun p25 e_p25 h => ?_)
  refine gL_weak (ls' := [(0, .ref c0), (1, V 0), (2, V 0)]) (sbc 2 rfl (sbc 1 rfl (sbc 0 rfl sbn))) ?_
  refine tl_Mo_nearRivals_9 hc0 (fun hx1_p25 => ?_) FU (0, 0) e_p25 (inRk rfl) (inRk rfl)
  refine g_iloadn (pc := 130) (i0 := 1) (j := 0) (dK D_Mo_nearRivals_1 26 rfl) rfl rfl ?_
  exact vg_iretI (pc := 131) (r := p25) (dK D_Mo_nearRivals_1 27 rfl) rfl (leK rfl) (leK rfl) (fun _ => rfl) (by obtain rfl := Option.some.inj h; exact ⟨rfl, hx1_p25, rfl⟩)
def lb_Mo_ofGroupOn_5 (c0 : Nat) (a1 : Int) (a2 : Int) (S : St) (go : Int × Int → Option (Int)) (a3 : Int) (a4 : Int) : Option (Int) := if (g S (tgt c0 0) 1) ≤ a4 then (some a3) else (bnO (fn_Mo_ofAd c0 a4 1 S) fun p1 => if p1 = a1 then (bnO (fn_Mo_ofAd c0 a4 6 S) fun p4 => if p4 ≤ 0 then (nm (wr (a3 + 0)) fun v5 => nm (wr (a4 + 1)) fun v6 => go (v5, v6)) else (bnO (fn_Mo_ofAd c0 a4 6 S) fun p7 => nm (wr (p7.tdiv 2)) fun v8 => if v8 = a2 then (nm (wr (a3 + 1)) fun v11 => nm (wr (a4 + 1)) fun v12 => go (v11, v12)) else (nm (wr (a3 + 0)) fun v9 => nm (wr (a4 + 1)) fun v10 => go (v9, v10)))) else (nm (wr (a3 + 0)) fun v2 => nm (wr (a4 + 1)) fun v3 => go (v2, v3)))
def lo_Mo_ofGroupOn_5 (c0 : Nat) (a1 : Int) (a2 : Int) (S : St) : Nat → Int × Int → Option (Int) := lp fun go p => lb_Mo_ofGroupOn_5 c0 a1 a2 S go p.1 p.2
set_option maxHeartbeats 20000000 in
theorem tl_Mo_ofGroupOn_5 {E : EV} {X : XT} {c0 : Nat} (hc0 : HC X 11 c0) {a1 : Int} (ha1 : inR a1) {a2 : Int} (ha2 : inR a2) {S : St} {K : RK → PS → Prop} {q : Int} (hx : inR q → Go E M_Mo_ofGroupOn 0 0 66 [(3, V q)] [] (WX X S) 0 0 K) : ∀ n a, lo_Mo_ofGroupOn_5 c0 a1 a2 S n a = some q → inR a.1 → inR a.2 → Go E M_Mo_ofGroupOn 0 0 5 [(0, .ref c0), (1, V a1), (2, V a2), (3, V a.1), (4, V a.2)] [] (WX X S) 0 0 K := by
  refine lp_ind (P := fun a : Int × Int => inR a.1 → inR a.2 → Go E M_Mo_ofGroupOn 0 0 5 [(0, .ref c0), (1, V a1), (2, V a2), (3, V a.1), (4, V a.2)] [] (WX X S) 0 0 K) (fun go ih a h => ?_)
  obtain ⟨a3, a4⟩ := a
  intro ha3 ha4
  show Go E M_Mo_ofGroupOn 0 0 5 [(0, .ref c0), (1, V a1), (2, V a2), (3, V a3), (4, V a4)] [] (WX X S) 0 0 K
  replace h : lb_Mo_ofGroupOn_5 c0 a1 a2 S go a3 a4 = some q := h
  unfold lb_Mo_ofGroupOn_5 at h
  refine g_iload (pc := 5) (j := 4) (dK D_Mo_ofGroupOn 4 rfl) rfl ?_
  refine g_aloadn (pc := 7) (i0 := 0) (j := 0) (dK D_Mo_ofGroupOn 5 rfl) rfl rfl ?_
  refine vg_getA (pc := 8) (ci := 11) (f := 0) (dK D_Mo_ofGroupOn 6 rfl) q_1442 hc0 (ltK rfl) (ltK rfl) rfl ?_
  refine vg_iconst (pc := 11) (dK D_Mo_ofGroupOn 7 rfl) ?_
  refine vg_iaload (pc := 12) (j := 1) (dK D_Mo_ofGroupOn 8 rfl) (hw_11_0 hc0) rfl ⟨by decide, by decide⟩ rfl ?_
  refine vg_icmp_ge (pc := 13) (t := 66) (dK D_Mo_ofGroupOn 9 rfl) rfl ha4 (g_in _ _ _) (fun hc16 => ?_) (fun hc16 => ?_)
  · replace h := ifP h hc16
    obtain rfl := Option.some.inj h
    refine gL_weak (ls' := [(3, V a3)]) (sbc 3 rfl sbn) ?_
    exact hx ha3
  · replace h := ifN h hc16
    refine g_iloadn (pc := 16) (i0 := 3) (j := 3) (dK D_Mo_ofGroupOn 10 rfl) rfl rfl ?_
    refine g_aloadn (pc := 17) (i0 := 0) (j := 0) (dK D_Mo_ofGroupOn 11 rfl) rfl rfl ?_
    refine g_iload (pc := 18) (j := 4) (dK D_Mo_ofGroupOn 12 rfl) rfl ?_
    refine vg_iconst (pc := 20) (dK D_Mo_ofGroupOn 13 rfl) ?_
    refine bnE h (fun p1 e_p1 h => ?_)
    refine vg_cV (pc := 21) (As := [V a4, V 1]) (rest := [V a3]) (mc' := 0) (ms' := 0) (dK D_Mo_ofGroupOn 14 rfl) K_Mo_82 (fitK rfl) (ltK rfl) hc0 rfl (leK rfl) (leK rfl) (leK rfl) (tf_Mo_ofAd hc0 ha4 (inRk rfl) e_p1) (kcI (fun h_p1 => ?_))
    refine g_iloadn (pc := 24) (i0 := 1) (j := 1) (dK D_Mo_ofGroupOn 15 rfl) rfl rfl ?_
    refine vg_icmp_ne (pc := 25) (t := 57) (dK D_Mo_ofGroupOn 16 rfl) rfl h_p1 ha1 (fun hc15 => ?_) (fun hc15 => ?_)
    · replace h := ifN h hc15
      refine vg_iconst (pc := 57) (dK D_Mo_ofGroupOn 32 rfl) ?_
      refine vg_iadd (pc := 58) (dK D_Mo_ofGroupOn 33 rfl) ?_
      refine nmE h (fun v2 e_v2 h => ?_)
      refine gtop e_v2 ?_
      refine g_istoren (pc := 59) (i0 := 3) (ls2 := [(3, V v2), (0, .ref c0), (1, V a1), (2, V a2), (4, V a4)]) (dK D_Mo_ofGroupOn 34 rfl) rfl (ltK rfl) rfl ?_
      refine nmE h (fun v3 e_v3 h => ?_)
      refine vg_iinc (pc := 60) (j := 4) (a := a4) (z := 1) (ls2 := [(4, V v3), (3, V v2), (0, .ref c0), (1, V a1), (2, V a2)]) (dK D_Mo_ofGroupOn 35 rfl) rfl e_v3 (ltK rfl) rfl ?_
      refine g_goto (pc := 63) (tgt := 5) (dK D_Mo_ofGroupOn 36 rfl) rfl ?_
      refine gL_weak (ls' := [(0, .ref c0), (1, V a1), (2, V a2), (3, V v2), (4, V v3)]) (sbc 2 rfl (sbc 3 rfl (sbc 4 rfl (sbc 1 rfl (sbc 0 rfl sbn))))) ?_
      replace h := ih _ h
      exact h (Vn_in e_v2) (Vn_in e_v3)
    · replace h := ifP h hc15
      refine g_aloadn (pc := 28) (i0 := 0) (j := 0) (dK D_Mo_ofGroupOn 17 rfl) rfl rfl ?_
      refine g_iload (pc := 29) (j := 4) (dK D_Mo_ofGroupOn 18 rfl) rfl ?_
      refine vg_bipush (pc := 31) (dK D_Mo_ofGroupOn 19 rfl) rfl ?_
      refine bnE h (fun p4 e_p4 h => ?_)
      refine vg_cV (pc := 33) (As := [V a4, V 6]) (rest := [V a3]) (mc' := 0) (ms' := 0) (dK D_Mo_ofGroupOn 20 rfl) K_Mo_82 (fitK rfl) (ltK rfl) hc0 rfl (leK rfl) (leK rfl) (leK rfl) (tf_Mo_ofAd hc0 ha4 (inRk rfl) e_p4) (kcI (fun h_p4 => ?_))
      refine vg_if_le (pc := 36) (t := 57) (dK D_Mo_ofGroupOn 21 rfl) rfl h_p4 (fun hc14 => ?_) (fun hc14 => ?_)
      · replace h := ifP h hc14
        refine vg_iconst (pc := 57) (dK D_Mo_ofGroupOn 32 rfl) ?_
        refine vg_iadd (pc := 58) (dK D_Mo_ofGroupOn 33 rfl) ?_
        refine nmE h (fun v5 e_v5 h => ?_)
        refine gtop e_v5 ?_
        refine g_istoren (pc := 59) (i0 := 3) (ls2 := [(3, V v5), (0, .ref c0), (1, V a1), (2, V a2), (4, V a4)]) (dK D_Mo_ofGroupOn 34 rfl) rfl (ltK rfl) rfl ?_
        refine nmE h (fun v6 e_v6 h => ?_)
        refine vg_iinc (pc := 60) (j := 4) (a := a4) (z := 1) (ls2 := [(4, V v6), (3, V v5), (0, .ref c0), (1, V a1), (2, V a2)]) (dK D_Mo_ofGroupOn 35 rfl) rfl e_v6 (ltK rfl) rfl ?_
        refine g_goto (pc := 63) (tgt := 5) (dK D_Mo_ofGroupOn 36 rfl) rfl ?_
        refine gL_weak (ls' := [(0, .ref c0), (1, V a1), (2, V a2), (3, V v5), (4, V v6)]) (sbc 2 rfl (sbc 3 rfl (sbc 4 rfl (sbc 1 rfl (sbc 0 rfl sbn))))) ?_
        replace h := ih _ h
        exact h (Vn_in e_v5) (Vn_in e_v6)
      · replace h := ifN h hc14
        refine g_aloadn (pc := 39) (i0 := 0) (j := 0) (dK D_Mo_ofGroupOn 22 rfl) rfl rfl ?_
        refine g_iload (pc := 40) (j := 4) (dK D_Mo_ofGroupOn 23 rfl) rfl ?_
        refine vg_bipush (pc := 42) (dK D_Mo_ofGroupOn 24 rfl) rfl ?_
        refine bnE h (fun p7 e_p7 h => ?_)
        refine vg_cV (pc := 44) (As := [V a4, V 6]) (rest := [V a3]) (mc' := 0) (ms' := 0) (dK D_Mo_ofGroupOn 25 rfl) K_Mo_82 (fitK rfl) (ltK rfl) hc0 rfl (leK rfl) (leK rfl) (leK rfl) (tf_Mo_ofAd hc0 ha4 (inRk rfl) e_p7) (kcI (fun h_p7 => ?_))
        refine vg_iconst (pc := 47) (dK D_Mo_ofGroupOn 26 rfl) ?_
        refine vg_idiv (pc := 48) (dK D_Mo_ofGroupOn 27 rfl) h_p7 (inRk rfl) (by decide) ?_
        refine g_iloadn (pc := 49) (i0 := 2) (j := 2) (dK D_Mo_ofGroupOn 28 rfl) rfl rfl ?_
        refine nmE h (fun v8 e_v8 h => ?_)
        refine gsk (st' := [V a2, V v8, V a3]) (by rw [Vn e_v8]) ?_
        refine vg_icmp_ne (pc := 50) (t := 57) (dK D_Mo_ofGroupOn 29 rfl) rfl (Vn_in e_v8) ha2 (fun hc13 => ?_) (fun hc13 => ?_)
        · replace h := ifN h hc13
          refine vg_iconst (pc := 57) (dK D_Mo_ofGroupOn 32 rfl) ?_
          refine vg_iadd (pc := 58) (dK D_Mo_ofGroupOn 33 rfl) ?_
          refine nmE h (fun v9 e_v9 h => ?_)
          refine gtop e_v9 ?_
          refine g_istoren (pc := 59) (i0 := 3) (ls2 := [(3, V v9), (0, .ref c0), (1, V a1), (2, V a2), (4, V a4)]) (dK D_Mo_ofGroupOn 34 rfl) rfl (ltK rfl) rfl ?_
          refine nmE h (fun v10 e_v10 h => ?_)
          refine vg_iinc (pc := 60) (j := 4) (a := a4) (z := 1) (ls2 := [(4, V v10), (3, V v9), (0, .ref c0), (1, V a1), (2, V a2)]) (dK D_Mo_ofGroupOn 35 rfl) rfl e_v10 (ltK rfl) rfl ?_
          refine g_goto (pc := 63) (tgt := 5) (dK D_Mo_ofGroupOn 36 rfl) rfl ?_
          refine gL_weak (ls' := [(0, .ref c0), (1, V a1), (2, V a2), (3, V v9), (4, V v10)]) (sbc 2 rfl (sbc 3 rfl (sbc 4 rfl (sbc 1 rfl (sbc 0 rfl sbn))))) ?_
          replace h := ih _ h
          exact h (Vn_in e_v9) (Vn_in e_v10)
        · replace h := ifP h hc13
          refine vg_iconst (pc := 53) (dK D_Mo_ofGroupOn 30 rfl) ?_
          refine g_goto (pc := 54) (tgt := 58) (dK D_Mo_ofGroupOn 31 rfl) rfl ?_
          refine vg_iadd (pc := 58) (dK D_Mo_ofGroupOn 33 rfl) ?_
          refine nmE h (fun v11 e_v11 h => ?_)
          refine gtop e_v11 ?_
          refine g_istoren (pc := 59) (i0 := 3) (ls2 := [(3, V v11), (0, .ref c0), (1, V a1), (2, V a2), (4, V a4)]) (dK D_Mo_ofGroupOn 34 rfl) rfl (ltK rfl) rfl ?_
          refine nmE h (fun v12 e_v12 h => ?_)
          refine vg_iinc (pc := 60) (j := 4) (a := a4) (z := 1) (ls2 := [(4, V v12), (3, V v11), (0, .ref c0), (1, V a1), (2, V a2)]) (dK D_Mo_ofGroupOn 35 rfl) rfl e_v12 (ltK rfl) rfl ?_
          refine g_goto (pc := 63) (tgt := 5) (dK D_Mo_ofGroupOn 36 rfl) rfl ?_
          refine gL_weak (ls' := [(0, .ref c0), (1, V a1), (2, V a2), (3, V v11), (4, V v12)]) (sbc 2 rfl (sbc 3 rfl (sbc 4 rfl (sbc 1 rfl (sbc 0 rfl sbn))))) ?_
          replace h := ih _ h
          exact h (Vn_in e_v11) (Vn_in e_v12)
def fn_Mo_ofGroupOn (c0 : Nat) (a1 : Int) (a2 : Int) (S : St) : Option (Int) := bnO (lo_Mo_ofGroupOn_5 c0 a1 a2 S FU (0, 0)) fun p17 => some p17
theorem tf_Mo_ofGroupOn {E : EV} {X : XT} {c0 : Nat} (hc0 : HC X 11 c0) {a1 : Int} (ha1 : inR a1) {a2 : Int} (ha2 : inR a2) {S : St} {q : Int} (h : fn_Mo_ofGroupOn c0 a1 a2 S = some q) : Ev E M_Mo_ofGroupOn [.ref c0, V a1, V a2] (WX X S) 0 0 (KI X q S) := by
  refine Ev.of pn_Mo rfl (leK rfl) ?_
  show Go E M_Mo_ofGroupOn 0 0 0 [(0, .ref c0), (1, V a1), (2, V a2)] [] (WX X S) 0 0 (KI X q S)
  unfold fn_Mo_ofGroupOn at h
  refine vg_iconst (pc := 0) (dK D_Mo_ofGroupOn 0 rfl) ?_
  refine g_istoren (pc := 1) (i0 := 3) (ls2 := [(3, V 0), (0, .ref c0), (1, V a1), (2, V a2)]) (dK D_Mo_ofGroupOn 1 rfl) rfl (ltK rfl) rfl ?_
  refine vg_iconst (pc := 2) (dK D_Mo_ofGroupOn 2 rfl) ?_
  refine g_istore (pc := 3) (ls2 := [(4, V 0), (3, V 0), (0, .ref c0), (1, V a1), (2, V a2)]) (dK D_Mo_ofGroupOn 3 rfl) (ltK rfl) rfl ?_
  refine bnE h (fun p17 e_p17 h => ?_)
  refine gL_weak (ls' := [(0, .ref c0), (1, V a1), (2, V a2), (3, V 0), (4, V 0)]) (sbc 2 rfl (sbc 3 rfl (sbc 4 rfl (sbc 1 rfl (sbc 0 rfl sbn))))) ?_
  refine tl_Mo_ofGroupOn_5 hc0 ha1 ha2 (fun hx3_p17 => ?_) FU (0, 0) e_p17 (inRk rfl) (inRk rfl)
  refine g_iloadn (pc := 66) (i0 := 3) (j := 0) (dK D_Mo_ofGroupOn 37 rfl) rfl rfl ?_
  exact vg_iretI (pc := 67) (r := p17) (dK D_Mo_ofGroupOn 38 rfl) rfl (leK rfl) (leK rfl) (fun _ => rfl) (by obtain rfl := Option.some.inj h; exact ⟨rfl, hx3_p17, rfl⟩)
def fn_Mo_groupOn (c0 : Nat) (a1 : Int) (a2 : Int) (S : St) : Option (Int × St) := nm (u S c0 4 0) fun S1 => bnO (fn_Mo_inRange a1 0 9 S1) fun p2 => if p2 = true then (bnO (fn_Mo_pageMany c0 S1) fun p7 => nm (wr (p7.tdiv 2)) fun v8 => bnO (fn_Mo_inRange a2 0 v8 S1) fun p9 => if p9 = true then (bnO (fn_Mo_throwsIf c0 0 1 S1) fun p11 => if p11.1 = true then (some (0, p11.2)) else (bnO (fn_Mo_ofGroupOn c0 a1 a2 p11.2) fun p13 => some (p13, p11.2))) else (bnO (fn_Mo_throwsIf c0 1 1 S1) fun p14 => if p14.1 = true then (some (0, p14.2)) else (bnO (fn_Mo_ofGroupOn c0 a1 a2 p14.2) fun p16 => some (p16, p14.2)))) else (bnO (fn_Mo_throwsIf c0 1 1 S1) fun p4 => if p4.1 = true then (some (0, p4.2)) else (bnO (fn_Mo_ofGroupOn c0 a1 a2 p4.2) fun p6 => some (p6, p4.2)))
theorem tf_Mo_groupOn {E : EV} {X : XT} {c0 : Nat} (hc0 : HC X 11 c0) {a1 : Int} (ha1 : inR a1) {a2 : Int} (ha2 : inR a2) {S : St} {q : Int × St} (h : fn_Mo_groupOn c0 a1 a2 S = some q) : Ev E M_Mo_groupOn [.ref c0, V a1, V a2] (WX X S) 0 0 (KI X q.1 q.2) := by
  refine Ev.of pn_Mo rfl (leK rfl) ?_
  show Go E M_Mo_groupOn 0 0 0 [(0, .ref c0), (1, V a1), (2, V a2)] [] (WX X S) 0 0 (KI X q.1 q.2)
  unfold fn_Mo_groupOn at h
  refine g_aloadn (pc := 0) (i0 := 0) (j := 0) (dK D_Mo_groupOn 0 rfl) rfl rfl ?_
  refine vg_iconst (pc := 1) (dK D_Mo_groupOn 1 rfl) ?_
  refine nmE h (fun S1 e_S1 h => ?_)
  refine vg_putI (pc := 2) (ci := 11) (f := 4) (z := 0) (dK D_Mo_groupOn 2 rfl) q_1446 hc0 (ltK rfl) (ltK rfl) rfl rfl e_S1 ?_
  refine g_aloadn (pc := 5) (i0 := 0) (j := 0) (dK D_Mo_groupOn 3 rfl) rfl rfl ?_
  refine g_iloadn (pc := 6) (i0 := 1) (j := 1) (dK D_Mo_groupOn 4 rfl) rfl rfl ?_
  refine vg_i2l (pc := 7) (dK D_Mo_groupOn 5 rfl) ha1 ?_
  refine vg_lconst (pc := 8) (y := 0) (dK D_Mo_groupOn 6 rfl) rfl ?_
  refine vg_ldc2 (pc := 9) (y := 9) (dK D_Mo_groupOn 7 rfl) q_1648 rfl ?_
  refine bnE h (fun p2 e_p2 h => ?_)
  refine vg_cS (pc := 12) (As := [J a1, J 0, J 9]) (rest := [.ref c0]) (mc' := 0) (ms' := 0) (dK D_Mo_groupOn 8 rfl) K_Mo_67 (fitK rfl) rfl (leK rfl) (leK rfl) (leK rfl) (tf_Mo_inRange (inR_L ha1) (inLk rfl) (inLk rfl) e_p2) (kcB ?_)
  refine vg_ifB_eq (pc := 15) (b := p2) (t := 34) (dK D_Mo_groupOn 9 rfl) rfl (fun hc3 => ?_) (fun hc3 => ?_)
  · replace h := ifP h hc3
    refine g_iloadn (pc := 18) (i0 := 2) (j := 2) (dK D_Mo_groupOn 10 rfl) rfl rfl ?_
    refine vg_i2l (pc := 19) (dK D_Mo_groupOn 11 rfl) ha2 ?_
    refine vg_lconst (pc := 20) (y := 0) (dK D_Mo_groupOn 12 rfl) rfl ?_
    refine g_aloadn (pc := 21) (i0 := 0) (j := 0) (dK D_Mo_groupOn 13 rfl) rfl rfl ?_
    refine bnE h (fun p7 e_p7 h => ?_)
    refine vg_cV (pc := 22) (As := []) (rest := [J 0, J a2, .ref c0]) (mc' := 0) (ms' := 0) (dK D_Mo_groupOn 14 rfl) K_Mo_63 (fitK rfl) (ltK rfl) hc0 rfl (leK rfl) (leK rfl) (leK rfl) (tf_Mo_pageMany hc0 e_p7) (kcI (fun h_p7 => ?_))
    refine vg_iconst (pc := 25) (dK D_Mo_groupOn 15 rfl) ?_
    refine vg_idiv (pc := 26) (dK D_Mo_groupOn 16 rfl) h_p7 (inRk rfl) (by decide) ?_
    refine nmE h (fun v8 e_v8 h => ?_)
    refine gtop e_v8 ?_
    refine vg_i2l (pc := 27) (dK D_Mo_groupOn 17 rfl) (Vn_in e_v8) ?_
    refine bnE h (fun p9 e_p9 h => ?_)
    refine vg_cS (pc := 28) (As := [J a2, J 0, J v8]) (rest := [.ref c0]) (mc' := 0) (ms' := 0) (dK D_Mo_groupOn 18 rfl) K_Mo_67 (fitK rfl) rfl (leK rfl) (leK rfl) (leK rfl) (tf_Mo_inRange (inR_L ha2) (inLk rfl) (inR_L (Vn_in e_v8)) e_p9) (kcB ?_)
    refine vg_ifB_ne (pc := 31) (b := p9) (t := 38) (dK D_Mo_groupOn 19 rfl) rfl (fun hc10 => ?_) (fun hc10 => ?_)
    · replace h := ifP h hc10
      refine vg_iconst (pc := 38) (dK D_Mo_groupOn 22 rfl) ?_
      refine vg_iconst (pc := 39) (dK D_Mo_groupOn 23 rfl) ?_
      refine bnE h (fun p11 e_p11 h => ?_)
      refine vg_cV (pc := 40) (As := [V 0, V 1]) (rest := []) (mc' := 0) (ms' := 0) (dK D_Mo_groupOn 24 rfl) K_Mo_125 (fitK rfl) (ltK rfl) hc0 rfl (leK rfl) (leK rfl) (leK rfl) (tf_Mo_throwsIf hc0 (inRk rfl) (inRk rfl) e_p11) (kcB ?_)
      refine vg_ifB_eq (pc := 43) (b := p11.1) (t := 50) (dK D_Mo_groupOn 25 rfl) rfl (fun hc12 => ?_) (fun hc12 => ?_)
      · replace h := ifP h hc12
        refine vg_iconst (pc := 46) (dK D_Mo_groupOn 26 rfl) ?_
        refine g_goto (pc := 47) (tgt := 56) (dK D_Mo_groupOn 27 rfl) rfl ?_
        exact vg_iretI (pc := 56) (r := 0) (dK D_Mo_groupOn 32 rfl) rfl (leK rfl) (leK rfl) (fun _ => rfl) (by obtain rfl := Option.some.inj h; exact ⟨rfl, (inRk rfl), rfl⟩)
      · replace h := ifN h hc12
        refine g_aloadn (pc := 50) (i0 := 0) (j := 0) (dK D_Mo_groupOn 28 rfl) rfl rfl ?_
        refine g_iloadn (pc := 51) (i0 := 1) (j := 1) (dK D_Mo_groupOn 29 rfl) rfl rfl ?_
        refine g_iloadn (pc := 52) (i0 := 2) (j := 2) (dK D_Mo_groupOn 30 rfl) rfl rfl ?_
        refine bnE h (fun p13 e_p13 h => ?_)
        refine vg_cV (pc := 53) (As := [V a1, V a2]) (rest := []) (mc' := 0) (ms' := 0) (dK D_Mo_groupOn 31 rfl) K_Mo_272 (fitK rfl) (ltK rfl) hc0 rfl (leK rfl) (leK rfl) (leK rfl) (tf_Mo_ofGroupOn hc0 ha1 ha2 e_p13) (kcI (fun h_p13 => ?_))
        exact vg_iretI (pc := 56) (r := p13) (dK D_Mo_groupOn 32 rfl) rfl (leK rfl) (leK rfl) (fun _ => rfl) (by obtain rfl := Option.some.inj h; exact ⟨rfl, h_p13, rfl⟩)
    · replace h := ifN h hc10
      refine vg_iconst (pc := 34) (dK D_Mo_groupOn 20 rfl) ?_
      refine g_goto (pc := 35) (tgt := 39) (dK D_Mo_groupOn 21 rfl) rfl ?_
      refine vg_iconst (pc := 39) (dK D_Mo_groupOn 23 rfl) ?_
      refine bnE h (fun p14 e_p14 h => ?_)
      refine vg_cV (pc := 40) (As := [V 1, V 1]) (rest := []) (mc' := 0) (ms' := 0) (dK D_Mo_groupOn 24 rfl) K_Mo_125 (fitK rfl) (ltK rfl) hc0 rfl (leK rfl) (leK rfl) (leK rfl) (tf_Mo_throwsIf hc0 (inRk rfl) (inRk rfl) e_p14) (kcB ?_)
      refine vg_ifB_eq (pc := 43) (b := p14.1) (t := 50) (dK D_Mo_groupOn 25 rfl) rfl (fun hc15 => ?_) (fun hc15 => ?_)
      · replace h := ifP h hc15
        refine vg_iconst (pc := 46) (dK D_Mo_groupOn 26 rfl) ?_
        refine g_goto (pc := 47) (tgt := 56) (dK D_Mo_groupOn 27 rfl) rfl ?_
        exact vg_iretI (pc := 56) (r := 0) (dK D_Mo_groupOn 32 rfl) rfl (leK rfl) (leK rfl) (fun _ => rfl) (by obtain rfl := Option.some.inj h; exact ⟨rfl, (inRk rfl), rfl⟩)
      · replace h := ifN h hc15
        refine g_aloadn (pc := 50) (i0 := 0) (j := 0) (dK D_Mo_groupOn 28 rfl) rfl rfl ?_
        refine g_iloadn (pc := 51) (i0 := 1) (j := 1) (dK D_Mo_groupOn 29 rfl) rfl rfl ?_
        refine g_iloadn (pc := 52) (i0 := 2) (j := 2) (dK D_Mo_groupOn 30 rfl) rfl rfl ?_
        refine bnE h (fun p16 e_p16 h => ?_)
        refine vg_cV (pc := 53) (As := [V a1, V a2]) (rest := []) (mc' := 0) (ms' := 0) (dK D_Mo_groupOn 31 rfl) K_Mo_272 (fitK rfl) (ltK rfl) hc0 rfl (leK rfl) (leK rfl) (leK rfl) (tf_Mo_ofGroupOn hc0 ha1 ha2 e_p16) (kcI (fun h_p16 => ?_))
        exact vg_iretI (pc := 56) (r := p16) (dK D_Mo_groupOn 32 rfl) rfl (leK rfl) (leK rfl) (fun _ => rfl) (by obtain rfl := Option.some.inj h; exact ⟨rfl, h_p16, rfl⟩)
  · replace h := ifN h hc3
    refine vg_iconst (pc := 34) (dK D_Mo_groupOn 20 rfl) ?_
    refine g_goto (pc := 35) (tgt := 39) (dK D_Mo_groupOn 21 rfl) rfl ?_
    refine vg_iconst (pc := 39) (dK D_Mo_groupOn 23 rfl) ?_
    refine bnE h (fun p4 e_p4 h => ?_)
    refine vg_cV (pc := 40) (As := [V 1, V 1]) (rest := []) (mc' := 0) (ms' := 0) (dK D_Mo_groupOn 24 rfl) K_Mo_125 (fitK rfl) (ltK rfl) hc0 rfl (leK rfl) (leK rfl) (leK rfl) (tf_Mo_throwsIf hc0 (inRk rfl) (inRk rfl) e_p4) (kcB ?_)
    refine vg_ifB_eq (pc := 43) (b := p4.1) (t := 50) (dK D_Mo_groupOn 25 rfl) rfl (fun hc5 => ?_) (fun hc5 => ?_)
    · replace h := ifP h hc5
      refine vg_iconst (pc := 46) (dK D_Mo_groupOn 26 rfl) ?_
      refine g_goto (pc := 47) (tgt := 56) (dK D_Mo_groupOn 27 rfl) rfl ?_
      exact vg_iretI (pc := 56) (r := 0) (dK D_Mo_groupOn 32 rfl) rfl (leK rfl) (leK rfl) (fun _ => rfl) (by obtain rfl := Option.some.inj h; exact ⟨rfl, (inRk rfl), rfl⟩)
    · replace h := ifN h hc5
      refine g_aloadn (pc := 50) (i0 := 0) (j := 0) (dK D_Mo_groupOn 28 rfl) rfl rfl ?_
      refine g_iloadn (pc := 51) (i0 := 1) (j := 1) (dK D_Mo_groupOn 29 rfl) rfl rfl ?_
      refine g_iloadn (pc := 52) (i0 := 2) (j := 2) (dK D_Mo_groupOn 30 rfl) rfl rfl ?_
      refine bnE h (fun p6 e_p6 h => ?_)
      refine vg_cV (pc := 53) (As := [V a1, V a2]) (rest := []) (mc' := 0) (ms' := 0) (dK D_Mo_groupOn 31 rfl) K_Mo_272 (fitK rfl) (ltK rfl) hc0 rfl (leK rfl) (leK rfl) (leK rfl) (tf_Mo_ofGroupOn hc0 ha1 ha2 e_p6) (kcI (fun h_p6 => ?_))
      exact vg_iretI (pc := 56) (r := p6) (dK D_Mo_groupOn 32 rfl) rfl (leK rfl) (leK rfl) (fun _ => rfl) (by obtain rfl := Option.some.inj h; exact ⟨rfl, h_p6, rfl⟩)
def lb_Mo_spreadsOf_36 (c0 : Nat) (a1 : Int) (S : St) (go : Int × Int → Option (Int)) (a2 : Int) (a3 : Int) : Option (Int) := bnO (fn_Mo_pageMany c0 S) fun p6 => nm (wr (p6.tdiv 2)) fun v7 => if v7 < a3 then (some a2) else (bnO (fn_Mo_ofGroupOn c0 a1 a3 S) fun p8 => if p8 ≤ 0 then (nm (wr (a2 + 0)) fun v9 => nm (wr (a3 + 1)) fun v10 => go (v9, v10)) else (nm (wr (a2 + 1)) fun v11 => nm (wr (a3 + 1)) fun v12 => go (v11, v12)))
def lo_Mo_spreadsOf_36 (c0 : Nat) (a1 : Int) (S : St) : Nat → Int × Int → Option (Int) := lp fun go p => lb_Mo_spreadsOf_36 c0 a1 S go p.1 p.2
theorem tl_Mo_spreadsOf_36 {E : EV} {X : XT} {c0 : Nat} (hc0 : HC X 11 c0) {a1 : Int} (ha1 : inR a1) {S : St} {K : RK → PS → Prop} {q : Int} (hx : inR q → Go E M_Mo_spreadsOf 0 0 69 [(2, V q)] [] (WX X S) 0 0 K) : ∀ n a, lo_Mo_spreadsOf_36 c0 a1 S n a = some q → inR a.1 → inR a.2 → Go E M_Mo_spreadsOf 0 0 36 [(0, .ref c0), (1, V a1), (2, V a.1), (3, V a.2)] [] (WX X S) 0 0 K := by
  refine lp_ind (P := fun a : Int × Int => inR a.1 → inR a.2 → Go E M_Mo_spreadsOf 0 0 36 [(0, .ref c0), (1, V a1), (2, V a.1), (3, V a.2)] [] (WX X S) 0 0 K) (fun go ih a h => ?_)
  obtain ⟨a2, a3⟩ := a
  intro ha2 ha3
  show Go E M_Mo_spreadsOf 0 0 36 [(0, .ref c0), (1, V a1), (2, V a2), (3, V a3)] [] (WX X S) 0 0 K
  replace h : lb_Mo_spreadsOf_36 c0 a1 S go a2 a3 = some q := h
  unfold lb_Mo_spreadsOf_36 at h
  refine g_iloadn (pc := 36) (i0 := 3) (j := 3) (dK D_Mo_spreadsOf 22 rfl) rfl rfl ?_
  refine g_aloadn (pc := 37) (i0 := 0) (j := 0) (dK D_Mo_spreadsOf 23 rfl) rfl rfl ?_
  refine bnE h (fun p6 e_p6 h => ?_)
  refine vg_cV (pc := 38) (As := []) (rest := [V a3]) (mc' := 0) (ms' := 0) (dK D_Mo_spreadsOf 24 rfl) K_Mo_63 (fitK rfl) (ltK rfl) hc0 rfl (leK rfl) (leK rfl) (leK rfl) (tf_Mo_pageMany hc0 e_p6) (kcI (fun h_p6 => ?_))
  refine vg_iconst (pc := 41) (dK D_Mo_spreadsOf 25 rfl) ?_
  refine vg_idiv (pc := 42) (dK D_Mo_spreadsOf 26 rfl) h_p6 (inRk rfl) (by decide) ?_
  refine nmE h (fun v7 e_v7 h => ?_)
  refine gtop e_v7 ?_
  refine vg_icmp_gt (pc := 43) (t := 69) (dK D_Mo_spreadsOf 27 rfl) rfl ha3 (Vn_in e_v7) (fun hc14 => ?_) (fun hc14 => ?_)
  · replace h := ifP h hc14
    obtain rfl := Option.some.inj h
    refine gL_weak (ls' := [(2, V a2)]) (sbc 2 rfl sbn) ?_
    exact hx ha2
  · replace h := ifN h hc14
    refine g_iloadn (pc := 46) (i0 := 2) (j := 2) (dK D_Mo_spreadsOf 28 rfl) rfl rfl ?_
    refine g_aloadn (pc := 47) (i0 := 0) (j := 0) (dK D_Mo_spreadsOf 29 rfl) rfl rfl ?_
    refine g_iloadn (pc := 48) (i0 := 1) (j := 1) (dK D_Mo_spreadsOf 30 rfl) rfl rfl ?_
    refine g_iloadn (pc := 49) (i0 := 3) (j := 3) (dK D_Mo_spreadsOf 31 rfl) rfl rfl ?_
    refine bnE h (fun p8 e_p8 h => ?_)
    refine vg_cV (pc := 50) (As := [V a1, V a3]) (rest := [V a2]) (mc' := 0) (ms' := 0) (dK D_Mo_spreadsOf 32 rfl) K_Mo_272 (fitK rfl) (ltK rfl) hc0 rfl (leK rfl) (leK rfl) (leK rfl) (tf_Mo_ofGroupOn hc0 ha1 ha3 e_p8) (kcI (fun h_p8 => ?_))
    refine vg_if_le (pc := 53) (t := 60) (dK D_Mo_spreadsOf 33 rfl) rfl h_p8 (fun hc13 => ?_) (fun hc13 => ?_)
    · replace h := ifP h hc13
      refine vg_iconst (pc := 60) (dK D_Mo_spreadsOf 36 rfl) ?_
      refine vg_iadd (pc := 61) (dK D_Mo_spreadsOf 37 rfl) ?_
      refine nmE h (fun v9 e_v9 h => ?_)
      refine gtop e_v9 ?_
      refine g_istoren (pc := 62) (i0 := 2) (ls2 := [(2, V v9), (0, .ref c0), (1, V a1), (3, V a3)]) (dK D_Mo_spreadsOf 38 rfl) rfl (ltK rfl) rfl ?_
      refine nmE h (fun v10 e_v10 h => ?_)
      refine vg_iinc (pc := 63) (j := 3) (a := a3) (z := 1) (ls2 := [(3, V v10), (2, V v9), (0, .ref c0), (1, V a1)]) (dK D_Mo_spreadsOf 39 rfl) rfl e_v10 (ltK rfl) rfl ?_
      refine g_goto (pc := 66) (tgt := 36) (dK D_Mo_spreadsOf 40 rfl) rfl ?_
      refine gL_weak (ls' := [(0, .ref c0), (1, V a1), (2, V v9), (3, V v10)]) (sbc 2 rfl (sbc 3 rfl (sbc 1 rfl (sbc 0 rfl sbn)))) ?_
      replace h := ih _ h
      exact h (Vn_in e_v9) (Vn_in e_v10)
    · replace h := ifN h hc13
      refine vg_iconst (pc := 56) (dK D_Mo_spreadsOf 34 rfl) ?_
      refine g_goto (pc := 57) (tgt := 61) (dK D_Mo_spreadsOf 35 rfl) rfl ?_
      refine vg_iadd (pc := 61) (dK D_Mo_spreadsOf 37 rfl) ?_
      refine nmE h (fun v11 e_v11 h => ?_)
      refine gtop e_v11 ?_
      refine g_istoren (pc := 62) (i0 := 2) (ls2 := [(2, V v11), (0, .ref c0), (1, V a1), (3, V a3)]) (dK D_Mo_spreadsOf 38 rfl) rfl (ltK rfl) rfl ?_
      refine nmE h (fun v12 e_v12 h => ?_)
      refine vg_iinc (pc := 63) (j := 3) (a := a3) (z := 1) (ls2 := [(3, V v12), (2, V v11), (0, .ref c0), (1, V a1)]) (dK D_Mo_spreadsOf 39 rfl) rfl e_v12 (ltK rfl) rfl ?_
      refine g_goto (pc := 66) (tgt := 36) (dK D_Mo_spreadsOf 40 rfl) rfl ?_
      refine gL_weak (ls' := [(0, .ref c0), (1, V a1), (2, V v11), (3, V v12)]) (sbc 2 rfl (sbc 3 rfl (sbc 1 rfl (sbc 0 rfl sbn)))) ?_
      replace h := ih _ h
      exact h (Vn_in e_v11) (Vn_in e_v12)
def fn_Mo_spreadsOf (c0 : Nat) (a1 : Int) (S : St) : Option (Int × St) := nm (u S c0 4 0) fun S1 => bnO (fn_Mo_inRange a1 0 9 S1) fun p2 => if p2 = true then (bnO (fn_Mo_throwsIf c0 0 1 S1) fun p4 => if p4.1 = true then (some (0, p4.2)) else (bnO (lo_Mo_spreadsOf_36 c0 a1 p4.2 FU (0, 0)) fun p15 => some (p15, p4.2))) else (bnO (fn_Mo_throwsIf c0 1 1 S1) fun p16 => if p16.1 = true then (some (0, p16.2)) else (bnO (lo_Mo_spreadsOf_36 c0 a1 p16.2 FU (0, 0)) fun p18 => some (p18, p16.2)))
theorem tf_Mo_spreadsOf {E : EV} {X : XT} {c0 : Nat} (hc0 : HC X 11 c0) {a1 : Int} (ha1 : inR a1) {S : St} {q : Int × St} (h : fn_Mo_spreadsOf c0 a1 S = some q) : Ev E M_Mo_spreadsOf [.ref c0, V a1] (WX X S) 0 0 (KI X q.1 q.2) := by
  refine Ev.of pn_Mo rfl (leK rfl) ?_
  show Go E M_Mo_spreadsOf 0 0 0 [(0, .ref c0), (1, V a1)] [] (WX X S) 0 0 (KI X q.1 q.2)
  unfold fn_Mo_spreadsOf at h
  refine g_aloadn (pc := 0) (i0 := 0) (j := 0) (dK D_Mo_spreadsOf 0 rfl) rfl rfl ?_
  refine vg_iconst (pc := 1) (dK D_Mo_spreadsOf 1 rfl) ?_
  refine nmE h (fun S1 e_S1 h => ?_)
  refine vg_putI (pc := 2) (ci := 11) (f := 4) (z := 0) (dK D_Mo_spreadsOf 2 rfl) q_1446 hc0 (ltK rfl) (ltK rfl) rfl rfl e_S1 ?_
  refine g_aloadn (pc := 5) (i0 := 0) (j := 0) (dK D_Mo_spreadsOf 3 rfl) rfl rfl ?_
  refine g_iloadn (pc := 6) (i0 := 1) (j := 1) (dK D_Mo_spreadsOf 4 rfl) rfl rfl ?_
  refine vg_i2l (pc := 7) (dK D_Mo_spreadsOf 5 rfl) ha1 ?_
  refine vg_lconst (pc := 8) (y := 0) (dK D_Mo_spreadsOf 6 rfl) rfl ?_
  refine vg_ldc2 (pc := 9) (y := 9) (dK D_Mo_spreadsOf 7 rfl) q_1648 rfl ?_
  refine bnE h (fun p2 e_p2 h => ?_)
  refine vg_cS (pc := 12) (As := [J a1, J 0, J 9]) (rest := [.ref c0]) (mc' := 0) (ms' := 0) (dK D_Mo_spreadsOf 8 rfl) K_Mo_67 (fitK rfl) rfl (leK rfl) (leK rfl) (leK rfl) (tf_Mo_inRange (inR_L ha1) (inLk rfl) (inLk rfl) e_p2) (kcB ?_)
  refine vg_ifB_ne (pc := 15) (b := p2) (t := 22) (dK D_Mo_spreadsOf 9 rfl) rfl (fun hc3 => ?_) (fun hc3 => ?_)
  · replace h := ifP h hc3
    refine vg_iconst (pc := 22) (dK D_Mo_spreadsOf 12 rfl) ?_
    refine vg_iconst (pc := 23) (dK D_Mo_spreadsOf 13 rfl) ?_
    refine bnE h (fun p4 e_p4 h => ?_)
    refine vg_cV (pc := 24) (As := [V 0, V 1]) (rest := []) (mc' := 0) (ms' := 0) (dK D_Mo_spreadsOf 14 rfl) K_Mo_125 (fitK rfl) (ltK rfl) hc0 rfl (leK rfl) (leK rfl) (leK rfl) (tf_Mo_throwsIf hc0 (inRk rfl) (inRk rfl) e_p4) (kcB ?_)
    refine vg_ifB_eq (pc := 27) (b := p4.1) (t := 32) (dK D_Mo_spreadsOf 15 rfl) rfl (fun hc5 => ?_) (fun hc5 => ?_)
    · replace h := ifP h hc5
      refine vg_iconst (pc := 30) (dK D_Mo_spreadsOf 16 rfl) ?_
      exact vg_iretI (pc := 31) (r := 0) (dK D_Mo_spreadsOf 17 rfl) rfl (leK rfl) (leK rfl) (fun _ => rfl) (by obtain rfl := Option.some.inj h; exact ⟨rfl, (inRk rfl), rfl⟩)
    · replace h := ifN h hc5
      refine vg_iconst (pc := 32) (dK D_Mo_spreadsOf 18 rfl) ?_
      refine g_istoren (pc := 33) (i0 := 2) (ls2 := [(2, V 0), (0, .ref c0), (1, V a1)]) (dK D_Mo_spreadsOf 19 rfl) rfl (ltK rfl) rfl ?_
      refine vg_iconst (pc := 34) (dK D_Mo_spreadsOf 20 rfl) ?_
      refine g_istoren (pc := 35) (i0 := 3) (ls2 := [(3, V 0), (2, V 0), (0, .ref c0), (1, V a1)]) (dK D_Mo_spreadsOf 21 rfl) rfl (ltK rfl) rfl ?_
      refine bnE h (fun p15 e_p15 h => ?_)
      refine gL_weak (ls' := [(0, .ref c0), (1, V a1), (2, V 0), (3, V 0)]) (sbc 2 rfl (sbc 3 rfl (sbc 1 rfl (sbc 0 rfl sbn)))) ?_
      refine tl_Mo_spreadsOf_36 hc0 ha1 (fun hx2_p15 => ?_) FU (0, 0) e_p15 (inRk rfl) (inRk rfl)
      refine g_iloadn (pc := 69) (i0 := 2) (j := 0) (dK D_Mo_spreadsOf 41 rfl) rfl rfl ?_
      exact vg_iretI (pc := 70) (r := p15) (dK D_Mo_spreadsOf 42 rfl) rfl (leK rfl) (leK rfl) (fun _ => rfl) (by obtain rfl := Option.some.inj h; exact ⟨rfl, hx2_p15, rfl⟩)
  · replace h := ifN h hc3
    refine vg_iconst (pc := 18) (dK D_Mo_spreadsOf 10 rfl) ?_
    refine g_goto (pc := 19) (tgt := 23) (dK D_Mo_spreadsOf 11 rfl) rfl ?_
    refine vg_iconst (pc := 23) (dK D_Mo_spreadsOf 13 rfl) ?_
    refine bnE h (fun p16 e_p16 h => ?_)
    refine vg_cV (pc := 24) (As := [V 1, V 1]) (rest := []) (mc' := 0) (ms' := 0) (dK D_Mo_spreadsOf 14 rfl) K_Mo_125 (fitK rfl) (ltK rfl) hc0 rfl (leK rfl) (leK rfl) (leK rfl) (tf_Mo_throwsIf hc0 (inRk rfl) (inRk rfl) e_p16) (kcB ?_)
    refine vg_ifB_eq (pc := 27) (b := p16.1) (t := 32) (dK D_Mo_spreadsOf 15 rfl) rfl (fun hc17 => ?_) (fun hc17 => ?_)
    · replace h := ifP h hc17
      refine vg_iconst (pc := 30) (dK D_Mo_spreadsOf 16 rfl) ?_
      exact vg_iretI (pc := 31) (r := 0) (dK D_Mo_spreadsOf 17 rfl) rfl (leK rfl) (leK rfl) (fun _ => rfl) (by obtain rfl := Option.some.inj h; exact ⟨rfl, (inRk rfl), rfl⟩)
    · replace h := ifN h hc17
      refine vg_iconst (pc := 32) (dK D_Mo_spreadsOf 18 rfl) ?_
      refine g_istoren (pc := 33) (i0 := 2) (ls2 := [(2, V 0), (0, .ref c0), (1, V a1)]) (dK D_Mo_spreadsOf 19 rfl) rfl (ltK rfl) rfl ?_
      refine vg_iconst (pc := 34) (dK D_Mo_spreadsOf 20 rfl) ?_
      refine g_istoren (pc := 35) (i0 := 3) (ls2 := [(3, V 0), (2, V 0), (0, .ref c0), (1, V a1)]) (dK D_Mo_spreadsOf 21 rfl) rfl (ltK rfl) rfl ?_
      refine bnE h (fun p18 e_p18 h => ?_)
      refine gL_weak (ls' := [(0, .ref c0), (1, V a1), (2, V 0), (3, V 0)]) (sbc 2 rfl (sbc 3 rfl (sbc 1 rfl (sbc 0 rfl sbn)))) ?_
      refine tl_Mo_spreadsOf_36 hc0 ha1 (fun hx2_p18 => ?_) FU (0, 0) e_p18 (inRk rfl) (inRk rfl)
      refine g_iloadn (pc := 69) (i0 := 2) (j := 0) (dK D_Mo_spreadsOf 41 rfl) rfl rfl ?_
      exact vg_iretI (pc := 70) (r := p18) (dK D_Mo_spreadsOf 42 rfl) rfl (leK rfl) (leK rfl) (fun _ => rfl) (by obtain rfl := Option.some.inj h; exact ⟨rfl, hx2_p18, rfl⟩)
def lb_Mo_revenueBy_4 (c0 : Nat) (a1 : Int) (S : St) (go : Int × Int → Option (Int)) (a2 : Int) (a3 : Int) : Option (Int) := if (g S (tgt c0 0) 1) ≤ a3 then (some a2) else (bnO (fn_Mo_ofAd c0 a3 6 S) fun p1 => if p1 ≤ 0 then (nm (wr (a2 + 0)) fun v2 => nm (wr (a3 + 1)) fun v3 => go (v2, v3)) else (if a1 = (-1) then (bnO (fn_Mo_ofAd c0 a3 4 S) fun p4 => nm (wr (a2 + p4)) fun v5 => nm (wr (a3 + 1)) fun v6 => go (v5, v6)) else (bnO (fn_Mo_ofAd c0 a3 1 S) fun p7 => if p7 = a1 then (bnO (fn_Mo_ofAd c0 a3 4 S) fun p10 => nm (wr (a2 + p10)) fun v11 => nm (wr (a3 + 1)) fun v12 => go (v11, v12)) else (nm (wr (a2 + 0)) fun v8 => nm (wr (a3 + 1)) fun v9 => go (v8, v9)))))
def lo_Mo_revenueBy_4 (c0 : Nat) (a1 : Int) (S : St) : Nat → Int × Int → Option (Int) := lp fun go p => lb_Mo_revenueBy_4 c0 a1 S go p.1 p.2
set_option maxHeartbeats 20000000 in
theorem tl_Mo_revenueBy_4 {E : EV} {X : XT} {c0 : Nat} (hc0 : HC X 11 c0) {a1 : Int} (ha1 : inR a1) {S : St} {K : RK → PS → Prop} {q : Int} (hx : inR q → Go E M_Mo_revenueBy 0 0 58 [(2, V q)] [] (WX X S) 0 0 K) : ∀ n a, lo_Mo_revenueBy_4 c0 a1 S n a = some q → inR a.1 → inR a.2 → Go E M_Mo_revenueBy 0 0 4 [(0, .ref c0), (1, V a1), (2, V a.1), (3, V a.2)] [] (WX X S) 0 0 K := by
  refine lp_ind (P := fun a : Int × Int => inR a.1 → inR a.2 → Go E M_Mo_revenueBy 0 0 4 [(0, .ref c0), (1, V a1), (2, V a.1), (3, V a.2)] [] (WX X S) 0 0 K) (fun go ih a h => ?_)
  obtain ⟨a2, a3⟩ := a
  intro ha2 ha3
  show Go E M_Mo_revenueBy 0 0 4 [(0, .ref c0), (1, V a1), (2, V a2), (3, V a3)] [] (WX X S) 0 0 K
  replace h : lb_Mo_revenueBy_4 c0 a1 S go a2 a3 = some q := h
  unfold lb_Mo_revenueBy_4 at h
  refine g_iloadn (pc := 4) (i0 := 3) (j := 3) (dK D_Mo_revenueBy 4 rfl) rfl rfl ?_
  refine g_aloadn (pc := 5) (i0 := 0) (j := 0) (dK D_Mo_revenueBy 5 rfl) rfl rfl ?_
  refine vg_getA (pc := 6) (ci := 11) (f := 0) (dK D_Mo_revenueBy 6 rfl) q_1442 hc0 (ltK rfl) (ltK rfl) rfl ?_
  refine vg_iconst (pc := 9) (dK D_Mo_revenueBy 7 rfl) ?_
  refine vg_iaload (pc := 10) (j := 1) (dK D_Mo_revenueBy 8 rfl) (hw_11_0 hc0) rfl ⟨by decide, by decide⟩ rfl ?_
  refine vg_icmp_ge (pc := 11) (t := 58) (dK D_Mo_revenueBy 9 rfl) rfl ha3 (g_in _ _ _) (fun hc16 => ?_) (fun hc16 => ?_)
  · replace h := ifP h hc16
    obtain rfl := Option.some.inj h
    refine gL_weak (ls' := [(2, V a2)]) (sbc 2 rfl sbn) ?_
    exact hx ha2
  · replace h := ifN h hc16
    refine g_iloadn (pc := 14) (i0 := 2) (j := 2) (dK D_Mo_revenueBy 10 rfl) rfl rfl ?_
    refine g_aloadn (pc := 15) (i0 := 0) (j := 0) (dK D_Mo_revenueBy 11 rfl) rfl rfl ?_
    refine g_iloadn (pc := 16) (i0 := 3) (j := 3) (dK D_Mo_revenueBy 12 rfl) rfl rfl ?_
    refine vg_bipush (pc := 17) (dK D_Mo_revenueBy 13 rfl) rfl ?_
    refine bnE h (fun p1 e_p1 h => ?_)
    refine vg_cV (pc := 19) (As := [V a3, V 6]) (rest := [V a2]) (mc' := 0) (ms' := 0) (dK D_Mo_revenueBy 14 rfl) K_Mo_82 (fitK rfl) (ltK rfl) hc0 rfl (leK rfl) (leK rfl) (leK rfl) (tf_Mo_ofAd hc0 ha3 (inRk rfl) e_p1) (kcI (fun h_p1 => ?_))
    refine vg_if_le (pc := 22) (t := 49) (dK D_Mo_revenueBy 15 rfl) rfl h_p1 (fun hc15 => ?_) (fun hc15 => ?_)
    · replace h := ifP h hc15
      refine vg_iconst (pc := 49) (dK D_Mo_revenueBy 30 rfl) ?_
      refine vg_iadd (pc := 50) (dK D_Mo_revenueBy 31 rfl) ?_
      refine nmE h (fun v2 e_v2 h => ?_)
      refine gtop e_v2 ?_
      refine g_istoren (pc := 51) (i0 := 2) (ls2 := [(2, V v2), (0, .ref c0), (1, V a1), (3, V a3)]) (dK D_Mo_revenueBy 32 rfl) rfl (ltK rfl) rfl ?_
      refine nmE h (fun v3 e_v3 h => ?_)
      refine vg_iinc (pc := 52) (j := 3) (a := a3) (z := 1) (ls2 := [(3, V v3), (2, V v2), (0, .ref c0), (1, V a1)]) (dK D_Mo_revenueBy 33 rfl) rfl e_v3 (ltK rfl) rfl ?_
      refine g_goto (pc := 55) (tgt := 4) (dK D_Mo_revenueBy 34 rfl) rfl ?_
      refine gL_weak (ls' := [(0, .ref c0), (1, V a1), (2, V v2), (3, V v3)]) (sbc 2 rfl (sbc 3 rfl (sbc 1 rfl (sbc 0 rfl sbn)))) ?_
      replace h := ih _ h
      exact h (Vn_in e_v2) (Vn_in e_v3)
    · replace h := ifN h hc15
      refine g_iloadn (pc := 25) (i0 := 1) (j := 1) (dK D_Mo_revenueBy 16 rfl) rfl rfl ?_
      refine vg_iconst (pc := 26) (dK D_Mo_revenueBy 17 rfl) ?_
      refine vg_icmp_eq (pc := 27) (t := 40) (dK D_Mo_revenueBy 18 rfl) rfl ha1 (inRk rfl) (fun hc14 => ?_) (fun hc14 => ?_)
      · replace h := ifP h hc14
        refine g_aloadn (pc := 40) (i0 := 0) (j := 0) (dK D_Mo_revenueBy 25 rfl) rfl rfl ?_
        refine g_iloadn (pc := 41) (i0 := 3) (j := 3) (dK D_Mo_revenueBy 26 rfl) rfl rfl ?_
        refine vg_iconst (pc := 42) (dK D_Mo_revenueBy 27 rfl) ?_
        refine bnE h (fun p4 e_p4 h => ?_)
        refine vg_cV (pc := 43) (As := [V a3, V 4]) (rest := [V a2]) (mc' := 0) (ms' := 0) (dK D_Mo_revenueBy 28 rfl) K_Mo_82 (fitK rfl) (ltK rfl) hc0 rfl (leK rfl) (leK rfl) (leK rfl) (tf_Mo_ofAd hc0 ha3 (inRk rfl) e_p4) (kcI (fun h_p4 => ?_))
        refine g_goto (pc := 46) (tgt := 50) (dK D_Mo_revenueBy 29 rfl) rfl ?_
        refine vg_iadd (pc := 50) (dK D_Mo_revenueBy 31 rfl) ?_
        refine nmE h (fun v5 e_v5 h => ?_)
        refine gtop e_v5 ?_
        refine g_istoren (pc := 51) (i0 := 2) (ls2 := [(2, V v5), (0, .ref c0), (1, V a1), (3, V a3)]) (dK D_Mo_revenueBy 32 rfl) rfl (ltK rfl) rfl ?_
        refine nmE h (fun v6 e_v6 h => ?_)
        refine vg_iinc (pc := 52) (j := 3) (a := a3) (z := 1) (ls2 := [(3, V v6), (2, V v5), (0, .ref c0), (1, V a1)]) (dK D_Mo_revenueBy 33 rfl) rfl e_v6 (ltK rfl) rfl ?_
        refine g_goto (pc := 55) (tgt := 4) (dK D_Mo_revenueBy 34 rfl) rfl ?_
        refine gL_weak (ls' := [(0, .ref c0), (1, V a1), (2, V v5), (3, V v6)]) (sbc 2 rfl (sbc 3 rfl (sbc 1 rfl (sbc 0 rfl sbn)))) ?_
        replace h := ih _ h
        exact h (Vn_in e_v5) (Vn_in e_v6)
      · replace h := ifN h hc14
        refine g_aloadn (pc := 30) (i0 := 0) (j := 0) (dK D_Mo_revenueBy 19 rfl) rfl rfl ?_
        refine g_iloadn (pc := 31) (i0 := 3) (j := 3) (dK D_Mo_revenueBy 20 rfl) rfl rfl ?_
        refine vg_iconst (pc := 32) (dK D_Mo_revenueBy 21 rfl) ?_
        refine bnE h (fun p7 e_p7 h => ?_)
        refine vg_cV (pc := 33) (As := [V a3, V 1]) (rest := [V a2]) (mc' := 0) (ms' := 0) (dK D_Mo_revenueBy 22 rfl) K_Mo_82 (fitK rfl) (ltK rfl) hc0 rfl (leK rfl) (leK rfl) (leK rfl) (tf_Mo_ofAd hc0 ha3 (inRk rfl) e_p7) (kcI (fun h_p7 => ?_))
        refine g_iloadn (pc := 36) (i0 := 1) (j := 1) (dK D_Mo_revenueBy 23 rfl) rfl rfl ?_
        refine vg_icmp_ne (pc := 37) (t := 49) (dK D_Mo_revenueBy 24 rfl) rfl h_p7 ha1 (fun hc13 => ?_) (fun hc13 => ?_)
        · replace h := ifN h hc13
          refine vg_iconst (pc := 49) (dK D_Mo_revenueBy 30 rfl) ?_
          refine vg_iadd (pc := 50) (dK D_Mo_revenueBy 31 rfl) ?_
          refine nmE h (fun v8 e_v8 h => ?_)
          refine gtop e_v8 ?_
          refine g_istoren (pc := 51) (i0 := 2) (ls2 := [(2, V v8), (0, .ref c0), (1, V a1), (3, V a3)]) (dK D_Mo_revenueBy 32 rfl) rfl (ltK rfl) rfl ?_
          refine nmE h (fun v9 e_v9 h => ?_)
          refine vg_iinc (pc := 52) (j := 3) (a := a3) (z := 1) (ls2 := [(3, V v9), (2, V v8), (0, .ref c0), (1, V a1)]) (dK D_Mo_revenueBy 33 rfl) rfl e_v9 (ltK rfl) rfl ?_
          refine g_goto (pc := 55) (tgt := 4) (dK D_Mo_revenueBy 34 rfl) rfl ?_
          refine gL_weak (ls' := [(0, .ref c0), (1, V a1), (2, V v8), (3, V v9)]) (sbc 2 rfl (sbc 3 rfl (sbc 1 rfl (sbc 0 rfl sbn)))) ?_
          replace h := ih _ h
          exact h (Vn_in e_v8) (Vn_in e_v9)
        · replace h := ifP h hc13
          refine g_aloadn (pc := 40) (i0 := 0) (j := 0) (dK D_Mo_revenueBy 25 rfl) rfl rfl ?_
          refine g_iloadn (pc := 41) (i0 := 3) (j := 3) (dK D_Mo_revenueBy 26 rfl) rfl rfl ?_
          refine vg_iconst (pc := 42) (dK D_Mo_revenueBy 27 rfl) ?_
          refine bnE h (fun p10 e_p10 h => ?_)
          refine vg_cV (pc := 43) (As := [V a3, V 4]) (rest := [V a2]) (mc' := 0) (ms' := 0) (dK D_Mo_revenueBy 28 rfl) K_Mo_82 (fitK rfl) (ltK rfl) hc0 rfl (leK rfl) (leK rfl) (leK rfl) (tf_Mo_ofAd hc0 ha3 (inRk rfl) e_p10) (kcI (fun h_p10 => ?_))
          refine g_goto (pc := 46) (tgt := 50) (dK D_Mo_revenueBy 29 rfl) rfl ?_
          refine vg_iadd (pc := 50) (dK D_Mo_revenueBy 31 rfl) ?_
          refine nmE h (fun v11 e_v11 h => ?_)
          refine gtop e_v11 ?_
          refine g_istoren (pc := 51) (i0 := 2) (ls2 := [(2, V v11), (0, .ref c0), (1, V a1), (3, V a3)]) (dK D_Mo_revenueBy 32 rfl) rfl (ltK rfl) rfl ?_
          refine nmE h (fun v12 e_v12 h => ?_)
          refine vg_iinc (pc := 52) (j := 3) (a := a3) (z := 1) (ls2 := [(3, V v12), (2, V v11), (0, .ref c0), (1, V a1)]) (dK D_Mo_revenueBy 33 rfl) rfl e_v12 (ltK rfl) rfl ?_
          refine g_goto (pc := 55) (tgt := 4) (dK D_Mo_revenueBy 34 rfl) rfl ?_
          refine gL_weak (ls' := [(0, .ref c0), (1, V a1), (2, V v11), (3, V v12)]) (sbc 2 rfl (sbc 3 rfl (sbc 1 rfl (sbc 0 rfl sbn)))) ?_
          replace h := ih _ h
          exact h (Vn_in e_v11) (Vn_in e_v12)
def fn_Mo_revenueBy (c0 : Nat) (a1 : Int) (S : St) : Option (Int) := bnO (lo_Mo_revenueBy_4 c0 a1 S FU (0, 0)) fun p17 => some p17
theorem tf_Mo_revenueBy {E : EV} {X : XT} {c0 : Nat} (hc0 : HC X 11 c0) {a1 : Int} (ha1 : inR a1) {S : St} {q : Int} (h : fn_Mo_revenueBy c0 a1 S = some q) : Ev E M_Mo_revenueBy [.ref c0, V a1] (WX X S) 0 0 (KI X q S) := by
  refine Ev.of pn_Mo rfl (leK rfl) ?_
  show Go E M_Mo_revenueBy 0 0 0 [(0, .ref c0), (1, V a1)] [] (WX X S) 0 0 (KI X q S)
  unfold fn_Mo_revenueBy at h
  refine vg_iconst (pc := 0) (dK D_Mo_revenueBy 0 rfl) ?_
  refine g_istoren (pc := 1) (i0 := 2) (ls2 := [(2, V 0), (0, .ref c0), (1, V a1)]) (dK D_Mo_revenueBy 1 rfl) rfl (ltK rfl) rfl ?_
  refine vg_iconst (pc := 2) (dK D_Mo_revenueBy 2 rfl) ?_
  refine g_istoren (pc := 3) (i0 := 3) (ls2 := [(3, V 0), (2, V 0), (0, .ref c0), (1, V a1)]) (dK D_Mo_revenueBy 3 rfl) rfl (ltK rfl) rfl ?_
  refine bnE h (fun p17 e_p17 h => ?_)
  refine gL_weak (ls' := [(0, .ref c0), (1, V a1), (2, V 0), (3, V 0)]) (sbc 2 rfl (sbc 3 rfl (sbc 1 rfl (sbc 0 rfl sbn)))) ?_
  refine tl_Mo_revenueBy_4 hc0 ha1 (fun hx2_p17 => ?_) FU (0, 0) e_p17 (inRk rfl) (inRk rfl)
  refine g_iloadn (pc := 58) (i0 := 2) (j := 0) (dK D_Mo_revenueBy 35 rfl) rfl rfl ?_
  exact vg_iretI (pc := 59) (r := p17) (dK D_Mo_revenueBy 36 rfl) rfl (leK rfl) (leK rfl) (fun _ => rfl) (by obtain rfl := Option.some.inj h; exact ⟨rfl, hx2_p17, rfl⟩)
def fn_Mo_revenue (c0 : Nat) (S : St) : Option (Int × St) := nm (u S c0 4 0) fun S1 => bnO (fn_Mo_revenueBy c0 (-1) S1) fun p2 => some (p2, S1)
theorem tf_Mo_revenue {E : EV} {X : XT} {c0 : Nat} (hc0 : HC X 11 c0) {S : St} {q : Int × St} (h : fn_Mo_revenue c0 S = some q) : Ev E M_Mo_revenue [.ref c0] (WX X S) 0 0 (KI X q.1 q.2) := by
  refine Ev.of pn_Mo rfl (leK rfl) ?_
  show Go E M_Mo_revenue 0 0 0 [(0, .ref c0)] [] (WX X S) 0 0 (KI X q.1 q.2)
  unfold fn_Mo_revenue at h
  refine g_aloadn (pc := 0) (i0 := 0) (j := 0) (dK D_Mo_revenue 0 rfl) rfl rfl ?_
  refine vg_iconst (pc := 1) (dK D_Mo_revenue 1 rfl) ?_
  refine nmE h (fun S1 e_S1 h => ?_)
  refine vg_putI (pc := 2) (ci := 11) (f := 4) (z := 0) (dK D_Mo_revenue 2 rfl) q_1446 hc0 (ltK rfl) (ltK rfl) rfl rfl e_S1 ?_
  refine g_aloadn (pc := 5) (i0 := 0) (j := 0) (dK D_Mo_revenue 3 rfl) rfl rfl ?_
  refine vg_iconst (pc := 6) (dK D_Mo_revenue 4 rfl) ?_
  refine bnE h (fun p2 e_p2 h => ?_)
  refine vg_cV (pc := 7) (As := [V (-1)]) (rest := []) (mc' := 0) (ms' := 0) (dK D_Mo_revenue 5 rfl) K_Mo_275 (fitK rfl) (ltK rfl) hc0 rfl (leK rfl) (leK rfl) (leK rfl) (tf_Mo_revenueBy hc0 (inRk rfl) e_p2) (kcI (fun h_p2 => ?_))
  exact vg_iretI (pc := 10) (r := p2) (dK D_Mo_revenue 6 rfl) rfl (leK rfl) (leK rfl) (fun _ => rfl) (by obtain rfl := Option.some.inj h; exact ⟨rfl, h_p2, rfl⟩)
def lb_Mo_revenueOf_32 (c0 : Nat) (a1 : Int) (S : St) (go : Int × Int → Option (Int)) (a2 : Int) (a3 : Int) : Option (Int) := if (g S (tgt c0 0) 1) ≤ a3 then (some a2) else (bnO (fn_Mo_isAdOnForm c0 a3 a1 S) fun p6 => if p6 = true then (bnO (fn_Mo_ofAd c0 a3 4 S) fun p10 => nm (wr (a2 + p10)) fun v11 => nm (wr (a3 + 1)) fun v12 => go (v11, v12)) else (nm (wr (a2 + 0)) fun v8 => nm (wr (a3 + 1)) fun v9 => go (v8, v9)))
def lo_Mo_revenueOf_32 (c0 : Nat) (a1 : Int) (S : St) : Nat → Int × Int → Option (Int) := lp fun go p => lb_Mo_revenueOf_32 c0 a1 S go p.1 p.2
theorem tl_Mo_revenueOf_32 {E : EV} {X : XT} {c0 : Nat} (hc0 : HC X 11 c0) {a1 : Int} (ha1 : inR a1) {S : St} {K : RK → PS → Prop} {q : Int} (hx : inR q → Go E M_Mo_revenueOf 0 0 70 [(2, V q)] [] (WX X S) 0 0 K) : ∀ n a, lo_Mo_revenueOf_32 c0 a1 S n a = some q → inR a.1 → inR a.2 → Go E M_Mo_revenueOf 0 0 32 [(0, .ref c0), (1, V a1), (2, V a.1), (3, V a.2)] [] (WX X S) 0 0 K := by
  refine lp_ind (P := fun a : Int × Int => inR a.1 → inR a.2 → Go E M_Mo_revenueOf 0 0 32 [(0, .ref c0), (1, V a1), (2, V a.1), (3, V a.2)] [] (WX X S) 0 0 K) (fun go ih a h => ?_)
  obtain ⟨a2, a3⟩ := a
  intro ha2 ha3
  show Go E M_Mo_revenueOf 0 0 32 [(0, .ref c0), (1, V a1), (2, V a2), (3, V a3)] [] (WX X S) 0 0 K
  replace h : lb_Mo_revenueOf_32 c0 a1 S go a2 a3 = some q := h
  unfold lb_Mo_revenueOf_32 at h
  refine g_iloadn (pc := 32) (i0 := 3) (j := 3) (dK D_Mo_revenueOf 20 rfl) rfl rfl ?_
  refine g_aloadn (pc := 33) (i0 := 0) (j := 0) (dK D_Mo_revenueOf 21 rfl) rfl rfl ?_
  refine vg_getA (pc := 34) (ci := 11) (f := 0) (dK D_Mo_revenueOf 22 rfl) q_1442 hc0 (ltK rfl) (ltK rfl) rfl ?_
  refine vg_iconst (pc := 37) (dK D_Mo_revenueOf 23 rfl) ?_
  refine vg_iaload (pc := 38) (j := 1) (dK D_Mo_revenueOf 24 rfl) (hw_11_0 hc0) rfl ⟨by decide, by decide⟩ rfl ?_
  refine vg_icmp_ge (pc := 39) (t := 70) (dK D_Mo_revenueOf 25 rfl) rfl ha3 (g_in _ _ _) (fun hc13 => ?_) (fun hc13 => ?_)
  · replace h := ifP h hc13
    obtain rfl := Option.some.inj h
    refine gL_weak (ls' := [(2, V a2)]) (sbc 2 rfl sbn) ?_
    exact hx ha2
  · replace h := ifN h hc13
    refine g_iloadn (pc := 42) (i0 := 2) (j := 2) (dK D_Mo_revenueOf 26 rfl) rfl rfl ?_
    refine g_aloadn (pc := 43) (i0 := 0) (j := 0) (dK D_Mo_revenueOf 27 rfl) rfl rfl ?_
    refine g_iloadn (pc := 44) (i0 := 3) (j := 3) (dK D_Mo_revenueOf 28 rfl) rfl rfl ?_
    refine g_iloadn (pc := 45) (i0 := 1) (j := 1) (dK D_Mo_revenueOf 29 rfl) rfl rfl ?_
    refine bnE h (fun p6 e_p6 h => ?_)
    refine vg_cV (pc := 46) (As := [V a3, V a1]) (rest := [V a2]) (mc' := 0) (ms' := 0) (dK D_Mo_revenueOf 30 rfl) K_Mo_193 (fitK rfl) (ltK rfl) hc0 rfl (leK rfl) (leK rfl) (leK rfl) (tf_Mo_isAdOnForm hc0 ha3 ha1 e_p6) (kcB ?_)
    refine vg_ifB_eq (pc := 49) (b := p6) (t := 61) (dK D_Mo_revenueOf 31 rfl) rfl (fun hc7 => ?_) (fun hc7 => ?_)
    · replace h := ifP h hc7
      refine g_aloadn (pc := 52) (i0 := 0) (j := 0) (dK D_Mo_revenueOf 32 rfl) rfl rfl ?_
      refine g_iloadn (pc := 53) (i0 := 3) (j := 3) (dK D_Mo_revenueOf 33 rfl) rfl rfl ?_
      refine vg_iconst (pc := 54) (dK D_Mo_revenueOf 34 rfl) ?_
      refine bnE h (fun p10 e_p10 h => ?_)
      refine vg_cV (pc := 55) (As := [V a3, V 4]) (rest := [V a2]) (mc' := 0) (ms' := 0) (dK D_Mo_revenueOf 35 rfl) K_Mo_82 (fitK rfl) (ltK rfl) hc0 rfl (leK rfl) (leK rfl) (leK rfl) (tf_Mo_ofAd hc0 ha3 (inRk rfl) e_p10) (kcI (fun h_p10 => ?_))
      refine g_goto (pc := 58) (tgt := 62) (dK D_Mo_revenueOf 36 rfl) rfl ?_
      refine vg_iadd (pc := 62) (dK D_Mo_revenueOf 38 rfl) ?_
      refine nmE h (fun v11 e_v11 h => ?_)
      refine gtop e_v11 ?_
      refine g_istoren (pc := 63) (i0 := 2) (ls2 := [(2, V v11), (0, .ref c0), (1, V a1), (3, V a3)]) (dK D_Mo_revenueOf 39 rfl) rfl (ltK rfl) rfl ?_
      refine nmE h (fun v12 e_v12 h => ?_)
      refine vg_iinc (pc := 64) (j := 3) (a := a3) (z := 1) (ls2 := [(3, V v12), (2, V v11), (0, .ref c0), (1, V a1)]) (dK D_Mo_revenueOf 40 rfl) rfl e_v12 (ltK rfl) rfl ?_
      refine g_goto (pc := 67) (tgt := 32) (dK D_Mo_revenueOf 41 rfl) rfl ?_
      refine gL_weak (ls' := [(0, .ref c0), (1, V a1), (2, V v11), (3, V v12)]) (sbc 2 rfl (sbc 3 rfl (sbc 1 rfl (sbc 0 rfl sbn)))) ?_
      replace h := ih _ h
      exact h (Vn_in e_v11) (Vn_in e_v12)
    · replace h := ifN h hc7
      refine vg_iconst (pc := 61) (dK D_Mo_revenueOf 37 rfl) ?_
      refine vg_iadd (pc := 62) (dK D_Mo_revenueOf 38 rfl) ?_
      refine nmE h (fun v8 e_v8 h => ?_)
      refine gtop e_v8 ?_
      refine g_istoren (pc := 63) (i0 := 2) (ls2 := [(2, V v8), (0, .ref c0), (1, V a1), (3, V a3)]) (dK D_Mo_revenueOf 39 rfl) rfl (ltK rfl) rfl ?_
      refine nmE h (fun v9 e_v9 h => ?_)
      refine vg_iinc (pc := 64) (j := 3) (a := a3) (z := 1) (ls2 := [(3, V v9), (2, V v8), (0, .ref c0), (1, V a1)]) (dK D_Mo_revenueOf 40 rfl) rfl e_v9 (ltK rfl) rfl ?_
      refine g_goto (pc := 67) (tgt := 32) (dK D_Mo_revenueOf 41 rfl) rfl ?_
      refine gL_weak (ls' := [(0, .ref c0), (1, V a1), (2, V v8), (3, V v9)]) (sbc 2 rfl (sbc 3 rfl (sbc 1 rfl (sbc 0 rfl sbn)))) ?_
      replace h := ih _ h
      exact h (Vn_in e_v8) (Vn_in e_v9)
def fn_Mo_revenueOf (c0 : Nat) (a1 : Int) (S : St) : Option (Int × St) := nm (u S c0 4 0) fun S1 => bnO (fn_Mo_isForm c0 a1 S1) fun p2 => if p2 = true then (bnO (fn_Mo_throwsIf c0 0 1 S1) fun p4 => if p4.1 = true then (some (0, p4.2)) else (bnO (lo_Mo_revenueOf_32 c0 a1 p4.2 FU (0, 0)) fun p14 => some (p14, p4.2))) else (bnO (fn_Mo_throwsIf c0 1 1 S1) fun p15 => if p15.1 = true then (some (0, p15.2)) else (bnO (lo_Mo_revenueOf_32 c0 a1 p15.2 FU (0, 0)) fun p17 => some (p17, p15.2)))
theorem tf_Mo_revenueOf {E : EV} {X : XT} {c0 : Nat} (hc0 : HC X 11 c0) {a1 : Int} (ha1 : inR a1) {S : St} {q : Int × St} (h : fn_Mo_revenueOf c0 a1 S = some q) : Ev E M_Mo_revenueOf [.ref c0, V a1] (WX X S) 0 0 (KI X q.1 q.2) := by
  refine Ev.of pn_Mo rfl (leK rfl) ?_
  show Go E M_Mo_revenueOf 0 0 0 [(0, .ref c0), (1, V a1)] [] (WX X S) 0 0 (KI X q.1 q.2)
  unfold fn_Mo_revenueOf at h
  refine g_aloadn (pc := 0) (i0 := 0) (j := 0) (dK D_Mo_revenueOf 0 rfl) rfl rfl ?_
  refine vg_iconst (pc := 1) (dK D_Mo_revenueOf 1 rfl) ?_
  refine nmE h (fun S1 e_S1 h => ?_)
  refine vg_putI (pc := 2) (ci := 11) (f := 4) (z := 0) (dK D_Mo_revenueOf 2 rfl) q_1446 hc0 (ltK rfl) (ltK rfl) rfl rfl e_S1 ?_
  refine g_aloadn (pc := 5) (i0 := 0) (j := 0) (dK D_Mo_revenueOf 3 rfl) rfl rfl ?_
  refine g_aloadn (pc := 6) (i0 := 0) (j := 0) (dK D_Mo_revenueOf 4 rfl) rfl rfl ?_
  refine g_iloadn (pc := 7) (i0 := 1) (j := 1) (dK D_Mo_revenueOf 5 rfl) rfl rfl ?_
  refine bnE h (fun p2 e_p2 h => ?_)
  refine vg_cV (pc := 8) (As := [V a1]) (rest := [.ref c0]) (mc' := 0) (ms' := 0) (dK D_Mo_revenueOf 6 rfl) K_Mo_199 (fitK rfl) (ltK rfl) hc0 rfl (leK rfl) (leK rfl) (leK rfl) (tf_Mo_isForm hc0 ha1 e_p2) (kcB ?_)
  refine vg_ifB_ne (pc := 11) (b := p2) (t := 18) (dK D_Mo_revenueOf 7 rfl) rfl (fun hc3 => ?_) (fun hc3 => ?_)
  · replace h := ifP h hc3
    refine vg_iconst (pc := 18) (dK D_Mo_revenueOf 10 rfl) ?_
    refine vg_iconst (pc := 19) (dK D_Mo_revenueOf 11 rfl) ?_
    refine bnE h (fun p4 e_p4 h => ?_)
    refine vg_cV (pc := 20) (As := [V 0, V 1]) (rest := []) (mc' := 0) (ms' := 0) (dK D_Mo_revenueOf 12 rfl) K_Mo_125 (fitK rfl) (ltK rfl) hc0 rfl (leK rfl) (leK rfl) (leK rfl) (tf_Mo_throwsIf hc0 (inRk rfl) (inRk rfl) e_p4) (kcB ?_)
    refine vg_ifB_eq (pc := 23) (b := p4.1) (t := 28) (dK D_Mo_revenueOf 13 rfl) rfl (fun hc5 => ?_) (fun hc5 => ?_)
    · replace h := ifP h hc5
      refine vg_iconst (pc := 26) (dK D_Mo_revenueOf 14 rfl) ?_
      exact vg_iretI (pc := 27) (r := 0) (dK D_Mo_revenueOf 15 rfl) rfl (leK rfl) (leK rfl) (fun _ => rfl) (by obtain rfl := Option.some.inj h; exact ⟨rfl, (inRk rfl), rfl⟩)
    · replace h := ifN h hc5
      refine vg_iconst (pc := 28) (dK D_Mo_revenueOf 16 rfl) ?_
      refine g_istoren (pc := 29) (i0 := 2) (ls2 := [(2, V 0), (0, .ref c0), (1, V a1)]) (dK D_Mo_revenueOf 17 rfl) rfl (ltK rfl) rfl ?_
      refine vg_iconst (pc := 30) (dK D_Mo_revenueOf 18 rfl) ?_
      refine g_istoren (pc := 31) (i0 := 3) (ls2 := [(3, V 0), (2, V 0), (0, .ref c0), (1, V a1)]) (dK D_Mo_revenueOf 19 rfl) rfl (ltK rfl) rfl ?_
      refine bnE h (fun p14 e_p14 h => ?_)
      refine gL_weak (ls' := [(0, .ref c0), (1, V a1), (2, V 0), (3, V 0)]) (sbc 2 rfl (sbc 3 rfl (sbc 1 rfl (sbc 0 rfl sbn)))) ?_
      refine tl_Mo_revenueOf_32 hc0 ha1 (fun hx2_p14 => ?_) FU (0, 0) e_p14 (inRk rfl) (inRk rfl)
      refine g_iloadn (pc := 70) (i0 := 2) (j := 0) (dK D_Mo_revenueOf 42 rfl) rfl rfl ?_
      exact vg_iretI (pc := 71) (r := p14) (dK D_Mo_revenueOf 43 rfl) rfl (leK rfl) (leK rfl) (fun _ => rfl) (by obtain rfl := Option.some.inj h; exact ⟨rfl, hx2_p14, rfl⟩)
  · replace h := ifN h hc3
    refine vg_iconst (pc := 14) (dK D_Mo_revenueOf 8 rfl) ?_
    refine g_goto (pc := 15) (tgt := 19) (dK D_Mo_revenueOf 9 rfl) rfl ?_
    refine vg_iconst (pc := 19) (dK D_Mo_revenueOf 11 rfl) ?_
    refine bnE h (fun p15 e_p15 h => ?_)
    refine vg_cV (pc := 20) (As := [V 1, V 1]) (rest := []) (mc' := 0) (ms' := 0) (dK D_Mo_revenueOf 12 rfl) K_Mo_125 (fitK rfl) (ltK rfl) hc0 rfl (leK rfl) (leK rfl) (leK rfl) (tf_Mo_throwsIf hc0 (inRk rfl) (inRk rfl) e_p15) (kcB ?_)
    refine vg_ifB_eq (pc := 23) (b := p15.1) (t := 28) (dK D_Mo_revenueOf 13 rfl) rfl (fun hc16 => ?_) (fun hc16 => ?_)
    · replace h := ifP h hc16
      refine vg_iconst (pc := 26) (dK D_Mo_revenueOf 14 rfl) ?_
      exact vg_iretI (pc := 27) (r := 0) (dK D_Mo_revenueOf 15 rfl) rfl (leK rfl) (leK rfl) (fun _ => rfl) (by obtain rfl := Option.some.inj h; exact ⟨rfl, (inRk rfl), rfl⟩)
    · replace h := ifN h hc16
      refine vg_iconst (pc := 28) (dK D_Mo_revenueOf 16 rfl) ?_
      refine g_istoren (pc := 29) (i0 := 2) (ls2 := [(2, V 0), (0, .ref c0), (1, V a1)]) (dK D_Mo_revenueOf 17 rfl) rfl (ltK rfl) rfl ?_
      refine vg_iconst (pc := 30) (dK D_Mo_revenueOf 18 rfl) ?_
      refine g_istoren (pc := 31) (i0 := 3) (ls2 := [(3, V 0), (2, V 0), (0, .ref c0), (1, V a1)]) (dK D_Mo_revenueOf 19 rfl) rfl (ltK rfl) rfl ?_
      refine bnE h (fun p17 e_p17 h => ?_)
      refine gL_weak (ls' := [(0, .ref c0), (1, V a1), (2, V 0), (3, V 0)]) (sbc 2 rfl (sbc 3 rfl (sbc 1 rfl (sbc 0 rfl sbn)))) ?_
      refine tl_Mo_revenueOf_32 hc0 ha1 (fun hx2_p17 => ?_) FU (0, 0) e_p17 (inRk rfl) (inRk rfl)
      refine g_iloadn (pc := 70) (i0 := 2) (j := 0) (dK D_Mo_revenueOf 42 rfl) rfl rfl ?_
      exact vg_iretI (pc := 71) (r := p17) (dK D_Mo_revenueOf 43 rfl) rfl (leK rfl) (leK rfl) (fun _ => rfl) (by obtain rfl := Option.some.inj h; exact ⟨rfl, hx2_p17, rfl⟩)
def fn_Mo_revenueOfGroup (c0 : Nat) (a1 : Int) (S : St) : Option (Int × St) := nm (u S c0 4 0) fun S1 => bnO (fn_Mo_inRange a1 0 9 S1) fun p2 => if p2 = true then (bnO (fn_Mo_throwsIf c0 0 1 S1) fun p4 => if p4.1 = true then (some (0, p4.2)) else (bnO (fn_Mo_revenueBy c0 a1 p4.2) fun p6 => some (p6, p4.2))) else (bnO (fn_Mo_throwsIf c0 1 1 S1) fun p7 => if p7.1 = true then (some (0, p7.2)) else (bnO (fn_Mo_revenueBy c0 a1 p7.2) fun p9 => some (p9, p7.2)))
theorem tf_Mo_revenueOfGroup {E : EV} {X : XT} {c0 : Nat} (hc0 : HC X 11 c0) {a1 : Int} (ha1 : inR a1) {S : St} {q : Int × St} (h : fn_Mo_revenueOfGroup c0 a1 S = some q) : Ev E M_Mo_revenueOfGroup [.ref c0, V a1] (WX X S) 0 0 (KI X q.1 q.2) := by
  refine Ev.of pn_Mo rfl (leK rfl) ?_
  show Go E M_Mo_revenueOfGroup 0 0 0 [(0, .ref c0), (1, V a1)] [] (WX X S) 0 0 (KI X q.1 q.2)
  unfold fn_Mo_revenueOfGroup at h
  refine g_aloadn (pc := 0) (i0 := 0) (j := 0) (dK D_Mo_revenueOfGroup 0 rfl) rfl rfl ?_
  refine vg_iconst (pc := 1) (dK D_Mo_revenueOfGroup 1 rfl) ?_
  refine nmE h (fun S1 e_S1 h => ?_)
  refine vg_putI (pc := 2) (ci := 11) (f := 4) (z := 0) (dK D_Mo_revenueOfGroup 2 rfl) q_1446 hc0 (ltK rfl) (ltK rfl) rfl rfl e_S1 ?_
  refine g_aloadn (pc := 5) (i0 := 0) (j := 0) (dK D_Mo_revenueOfGroup 3 rfl) rfl rfl ?_
  refine g_iloadn (pc := 6) (i0 := 1) (j := 1) (dK D_Mo_revenueOfGroup 4 rfl) rfl rfl ?_
  refine vg_i2l (pc := 7) (dK D_Mo_revenueOfGroup 5 rfl) ha1 ?_
  refine vg_lconst (pc := 8) (y := 0) (dK D_Mo_revenueOfGroup 6 rfl) rfl ?_
  refine vg_ldc2 (pc := 9) (y := 9) (dK D_Mo_revenueOfGroup 7 rfl) q_1648 rfl ?_
  refine bnE h (fun p2 e_p2 h => ?_)
  refine vg_cS (pc := 12) (As := [J a1, J 0, J 9]) (rest := [.ref c0]) (mc' := 0) (ms' := 0) (dK D_Mo_revenueOfGroup 8 rfl) K_Mo_67 (fitK rfl) rfl (leK rfl) (leK rfl) (leK rfl) (tf_Mo_inRange (inR_L ha1) (inLk rfl) (inLk rfl) e_p2) (kcB ?_)
  refine vg_ifB_ne (pc := 15) (b := p2) (t := 22) (dK D_Mo_revenueOfGroup 9 rfl) rfl (fun hc3 => ?_) (fun hc3 => ?_)
  · replace h := ifP h hc3
    refine vg_iconst (pc := 22) (dK D_Mo_revenueOfGroup 12 rfl) ?_
    refine vg_iconst (pc := 23) (dK D_Mo_revenueOfGroup 13 rfl) ?_
    refine bnE h (fun p4 e_p4 h => ?_)
    refine vg_cV (pc := 24) (As := [V 0, V 1]) (rest := []) (mc' := 0) (ms' := 0) (dK D_Mo_revenueOfGroup 14 rfl) K_Mo_125 (fitK rfl) (ltK rfl) hc0 rfl (leK rfl) (leK rfl) (leK rfl) (tf_Mo_throwsIf hc0 (inRk rfl) (inRk rfl) e_p4) (kcB ?_)
    refine vg_ifB_eq (pc := 27) (b := p4.1) (t := 34) (dK D_Mo_revenueOfGroup 15 rfl) rfl (fun hc5 => ?_) (fun hc5 => ?_)
    · replace h := ifP h hc5
      refine vg_iconst (pc := 30) (dK D_Mo_revenueOfGroup 16 rfl) ?_
      refine g_goto (pc := 31) (tgt := 39) (dK D_Mo_revenueOfGroup 17 rfl) rfl ?_
      exact vg_iretI (pc := 39) (r := 0) (dK D_Mo_revenueOfGroup 21 rfl) rfl (leK rfl) (leK rfl) (fun _ => rfl) (by obtain rfl := Option.some.inj h; exact ⟨rfl, (inRk rfl), rfl⟩)
    · replace h := ifN h hc5
      refine g_aloadn (pc := 34) (i0 := 0) (j := 0) (dK D_Mo_revenueOfGroup 18 rfl) rfl rfl ?_
      refine g_iloadn (pc := 35) (i0 := 1) (j := 1) (dK D_Mo_revenueOfGroup 19 rfl) rfl rfl ?_
      refine bnE h (fun p6 e_p6 h => ?_)
      refine vg_cV (pc := 36) (As := [V a1]) (rest := []) (mc' := 0) (ms' := 0) (dK D_Mo_revenueOfGroup 20 rfl) K_Mo_275 (fitK rfl) (ltK rfl) hc0 rfl (leK rfl) (leK rfl) (leK rfl) (tf_Mo_revenueBy hc0 ha1 e_p6) (kcI (fun h_p6 => ?_))
      exact vg_iretI (pc := 39) (r := p6) (dK D_Mo_revenueOfGroup 21 rfl) rfl (leK rfl) (leK rfl) (fun _ => rfl) (by obtain rfl := Option.some.inj h; exact ⟨rfl, h_p6, rfl⟩)
  · replace h := ifN h hc3
    refine vg_iconst (pc := 18) (dK D_Mo_revenueOfGroup 10 rfl) ?_
    refine g_goto (pc := 19) (tgt := 23) (dK D_Mo_revenueOfGroup 11 rfl) rfl ?_
    refine vg_iconst (pc := 23) (dK D_Mo_revenueOfGroup 13 rfl) ?_
    refine bnE h (fun p7 e_p7 h => ?_)
    refine vg_cV (pc := 24) (As := [V 1, V 1]) (rest := []) (mc' := 0) (ms' := 0) (dK D_Mo_revenueOfGroup 14 rfl) K_Mo_125 (fitK rfl) (ltK rfl) hc0 rfl (leK rfl) (leK rfl) (leK rfl) (tf_Mo_throwsIf hc0 (inRk rfl) (inRk rfl) e_p7) (kcB ?_)
    refine vg_ifB_eq (pc := 27) (b := p7.1) (t := 34) (dK D_Mo_revenueOfGroup 15 rfl) rfl (fun hc8 => ?_) (fun hc8 => ?_)
    · replace h := ifP h hc8
      refine vg_iconst (pc := 30) (dK D_Mo_revenueOfGroup 16 rfl) ?_
      refine g_goto (pc := 31) (tgt := 39) (dK D_Mo_revenueOfGroup 17 rfl) rfl ?_
      exact vg_iretI (pc := 39) (r := 0) (dK D_Mo_revenueOfGroup 21 rfl) rfl (leK rfl) (leK rfl) (fun _ => rfl) (by obtain rfl := Option.some.inj h; exact ⟨rfl, (inRk rfl), rfl⟩)
    · replace h := ifN h hc8
      refine g_aloadn (pc := 34) (i0 := 0) (j := 0) (dK D_Mo_revenueOfGroup 18 rfl) rfl rfl ?_
      refine g_iloadn (pc := 35) (i0 := 1) (j := 1) (dK D_Mo_revenueOfGroup 19 rfl) rfl rfl ?_
      refine bnE h (fun p9 e_p9 h => ?_)
      refine vg_cV (pc := 36) (As := [V a1]) (rest := []) (mc' := 0) (ms' := 0) (dK D_Mo_revenueOfGroup 20 rfl) K_Mo_275 (fitK rfl) (ltK rfl) hc0 rfl (leK rfl) (leK rfl) (leK rfl) (tf_Mo_revenueBy hc0 ha1 e_p9) (kcI (fun h_p9 => ?_))
      exact vg_iretI (pc := 39) (r := p9) (dK D_Mo_revenueOfGroup 21 rfl) rfl (leK rfl) (leK rfl) (fun _ => rfl) (by obtain rfl := Option.some.inj h; exact ⟨rfl, h_p9, rfl⟩)
def fn_Mo_isItem (c0 : Nat) (a1 : Int) (S : St) : Option (Bool) := bnO (fn_Mo_isAd c0 a1 S) fun p1 => if p1 = true then (some true) else (nm (wr (a1 - 100)) fun v3 => bnO (fn_Mo_isStory c0 v3 S) fun p4 => if p4 = true then (some true) else (some false))
theorem tf_Mo_isItem {E : EV} {X : XT} {c0 : Nat} (hc0 : HC X 11 c0) {a1 : Int} (ha1 : inR a1) {S : St} {q : Bool} (h : fn_Mo_isItem c0 a1 S = some q) : Ev E M_Mo_isItem [.ref c0, V a1] (WX X S) 0 0 (KB X q S) := by
  refine Ev.of pn_Mo rfl (leK rfl) ?_
  show Go E M_Mo_isItem 0 0 0 [(0, .ref c0), (1, V a1)] [] (WX X S) 0 0 (KB X q S)
  unfold fn_Mo_isItem at h
  refine g_aloadn (pc := 0) (i0 := 0) (j := 0) (dK D_Mo_isItem 0 rfl) rfl rfl ?_
  refine g_iloadn (pc := 1) (i0 := 1) (j := 1) (dK D_Mo_isItem 1 rfl) rfl rfl ?_
  refine bnE h (fun p1 e_p1 h => ?_)
  refine vg_cV (pc := 2) (As := [V a1]) (rest := []) (mc' := 0) (ms' := 0) (dK D_Mo_isItem 2 rfl) K_Mo_122 (fitK rfl) (ltK rfl) hc0 rfl (leK rfl) (leK rfl) (leK rfl) (tf_Mo_isAd hc0 ha1 e_p1) (kcB ?_)
  refine vg_ifB_ne (pc := 5) (b := p1) (t := 19) (dK D_Mo_isItem 3 rfl) rfl (fun hc2 => ?_) (fun hc2 => ?_)
  · replace h := ifP h hc2
    refine vg_iconst (pc := 19) (dK D_Mo_isItem 10 rfl) ?_
    refine g_goto (pc := 20) (tgt := 24) (dK D_Mo_isItem 11 rfl) rfl ?_
    exact vg_iretB (pc := 24) (b := true) (dK D_Mo_isItem 13 rfl) rfl (leK rfl) (leK rfl) (fun _ => rfl) (by obtain rfl := Option.some.inj h; exact ⟨rfl, rfl⟩)
  · replace h := ifN h hc2
    refine g_aloadn (pc := 8) (i0 := 0) (j := 0) (dK D_Mo_isItem 4 rfl) rfl rfl ?_
    refine g_iloadn (pc := 9) (i0 := 1) (j := 1) (dK D_Mo_isItem 5 rfl) rfl rfl ?_
    refine vg_bipush (pc := 10) (dK D_Mo_isItem 6 rfl) rfl ?_
    refine vg_isub (pc := 12) (dK D_Mo_isItem 7 rfl) ?_
    refine nmE h (fun v3 e_v3 h => ?_)
    refine gtop e_v3 ?_
    refine bnE h (fun p4 e_p4 h => ?_)
    refine vg_cV (pc := 13) (As := [V v3]) (rest := []) (mc' := 0) (ms' := 0) (dK D_Mo_isItem 8 rfl) K_Mo_132 (fitK rfl) (ltK rfl) hc0 rfl (leK rfl) (leK rfl) (leK rfl) (tf_Mo_isStory hc0 (Vn_in e_v3) e_p4) (kcB ?_)
    refine vg_ifB_eq (pc := 16) (b := p4) (t := 23) (dK D_Mo_isItem 9 rfl) rfl (fun hc5 => ?_) (fun hc5 => ?_)
    · replace h := ifP h hc5
      refine vg_iconst (pc := 19) (dK D_Mo_isItem 10 rfl) ?_
      refine g_goto (pc := 20) (tgt := 24) (dK D_Mo_isItem 11 rfl) rfl ?_
      exact vg_iretB (pc := 24) (b := true) (dK D_Mo_isItem 13 rfl) rfl (leK rfl) (leK rfl) (fun _ => rfl) (by obtain rfl := Option.some.inj h; exact ⟨rfl, rfl⟩)
    · replace h := ifN h hc5
      refine vg_iconst (pc := 23) (dK D_Mo_isItem 12 rfl) ?_
      exact vg_iretB (pc := 24) (b := false) (dK D_Mo_isItem 13 rfl) rfl (leK rfl) (leK rfl) (fun _ => rfl) (by obtain rfl := Option.some.inj h; exact ⟨rfl, rfl⟩)
def fn_Mo_readyOf (c0 : Nat) (a1 : Int) (S : St) : Option (Int) := if 100 ≤ a1 then (nm (wr (a1 - 100)) fun v1 => bnO (fn_Mo_ofStory c0 v1 3 S) fun p2 => some p2) else (bnO (fn_Mo_ofAd c0 a1 5 S) fun p3 => some p3)
theorem tf_Mo_readyOf {E : EV} {X : XT} {c0 : Nat} (hc0 : HC X 11 c0) {a1 : Int} (ha1 : inR a1) {S : St} {q : Int} (h : fn_Mo_readyOf c0 a1 S = some q) : Ev E M_Mo_readyOf [.ref c0, V a1] (WX X S) 0 0 (KI X q S) := by
  refine Ev.of pn_Mo rfl (leK rfl) ?_
  show Go E M_Mo_readyOf 0 0 0 [(0, .ref c0), (1, V a1)] [] (WX X S) 0 0 (KI X q S)
  unfold fn_Mo_readyOf at h
  refine g_iloadn (pc := 0) (i0 := 1) (j := 1) (dK D_Mo_readyOf 0 rfl) rfl rfl ?_
  refine vg_bipush (pc := 1) (dK D_Mo_readyOf 1 rfl) rfl ?_
  refine vg_icmp_ge (pc := 3) (t := 15) (dK D_Mo_readyOf 2 rfl) rfl ha1 (inRk rfl) (fun hc4 => ?_) (fun hc4 => ?_)
  · replace h := ifP h hc4
    refine g_aloadn (pc := 15) (i0 := 0) (j := 0) (dK D_Mo_readyOf 8 rfl) rfl rfl ?_
    refine g_iloadn (pc := 16) (i0 := 1) (j := 1) (dK D_Mo_readyOf 9 rfl) rfl rfl ?_
    refine vg_bipush (pc := 17) (dK D_Mo_readyOf 10 rfl) rfl ?_
    refine vg_isub (pc := 19) (dK D_Mo_readyOf 11 rfl) ?_
    refine vg_iconst (pc := 20) (dK D_Mo_readyOf 12 rfl) ?_
    refine nmE h (fun v1 e_v1 h => ?_)
    refine gsk (st' := [V 3, V v1, .ref c0]) (by rw [Vn e_v1]) ?_
    refine bnE h (fun p2 e_p2 h => ?_)
    refine vg_cV (pc := 21) (As := [V v1, V 3]) (rest := []) (mc' := 0) (ms' := 0) (dK D_Mo_readyOf 13 rfl) K_Mo_85 (fitK rfl) (ltK rfl) hc0 rfl (leK rfl) (leK rfl) (leK rfl) (tf_Mo_ofStory hc0 (Vn_in e_v1) (inRk rfl) e_p2) (kcI (fun h_p2 => ?_))
    exact vg_iretI (pc := 24) (r := p2) (dK D_Mo_readyOf 14 rfl) rfl (leK rfl) (leK rfl) (fun _ => rfl) (by obtain rfl := Option.some.inj h; exact ⟨rfl, h_p2, rfl⟩)
  · replace h := ifN h hc4
    refine g_aloadn (pc := 6) (i0 := 0) (j := 0) (dK D_Mo_readyOf 3 rfl) rfl rfl ?_
    refine g_iloadn (pc := 7) (i0 := 1) (j := 1) (dK D_Mo_readyOf 4 rfl) rfl rfl ?_
    refine vg_iconst (pc := 8) (dK D_Mo_readyOf 5 rfl) ?_
    refine bnE h (fun p3 e_p3 h => ?_)
    refine vg_cV (pc := 9) (As := [V a1, V 5]) (rest := []) (mc' := 0) (ms' := 0) (dK D_Mo_readyOf 6 rfl) K_Mo_82 (fitK rfl) (ltK rfl) hc0 rfl (leK rfl) (leK rfl) (leK rfl) (tf_Mo_ofAd hc0 ha1 (inRk rfl) e_p3) (kcI (fun h_p3 => ?_))
    refine g_goto (pc := 12) (tgt := 24) (dK D_Mo_readyOf 7 rfl) rfl ?_
    exact vg_iretI (pc := 24) (r := p3) (dK D_Mo_readyOf 14 rfl) rfl (leK rfl) (leK rfl) (fun _ => rfl) (by obtain rfl := Option.some.inj h; exact ⟨rfl, h_p3, rfl⟩)
def lb_Mo_isOnOpenForm_40 (c0 : Nat) (a1 : Int) (S : St) (go : Int × Int → Option (Int)) (a2 : Int) (a3 : Int) : Option (Int) := bnO (fn_Mo_pageMany c0 S) fun p1 => if p1 < a3 then (some a2) else (nm (wr (a1 - 100)) fun v2 => bnO (fn_Mo_covers c0 v2 a3 S) fun p3 => if p3 = true then (bnO (fn_Mo_isPrinted c0 a3 S) fun p6 => if p6 = true then (nm (wr (a3 + 1)) fun v8 => go ((i_or a2 0), v8)) else (nm (wr (a3 + 1)) fun v9 => go ((i_or a2 1), v9))) else (nm (wr (a3 + 1)) fun v5 => go ((i_or a2 0), v5)))
def lo_Mo_isOnOpenForm_40 (c0 : Nat) (a1 : Int) (S : St) : Nat → Int × Int → Option (Int) := lp fun go p => lb_Mo_isOnOpenForm_40 c0 a1 S go p.1 p.2
theorem tl_Mo_isOnOpenForm_40 {E : EV} {X : XT} {c0 : Nat} (hc0 : HC X 11 c0) {a1 : Int} (ha1 : inR a1) {S : St} {K : RK → PS → Prop} {q : Int} (hx : inR q → Go E M_Mo_isOnOpenForm 0 0 82 [(2, V q)] [] (WX X S) 0 0 K) : ∀ n a, lo_Mo_isOnOpenForm_40 c0 a1 S n a = some q → inR a.1 → inR a.2 → Go E M_Mo_isOnOpenForm 0 0 40 [(0, .ref c0), (1, V a1), (2, V a.1), (3, V a.2)] [] (WX X S) 0 0 K := by
  refine lp_ind (P := fun a : Int × Int => inR a.1 → inR a.2 → Go E M_Mo_isOnOpenForm 0 0 40 [(0, .ref c0), (1, V a1), (2, V a.1), (3, V a.2)] [] (WX X S) 0 0 K) (fun go ih a h => ?_)
  obtain ⟨a2, a3⟩ := a
  intro ha2 ha3
  show Go E M_Mo_isOnOpenForm 0 0 40 [(0, .ref c0), (1, V a1), (2, V a2), (3, V a3)] [] (WX X S) 0 0 K
  replace h : lb_Mo_isOnOpenForm_40 c0 a1 S go a2 a3 = some q := h
  unfold lb_Mo_isOnOpenForm_40 at h
  refine g_iloadn (pc := 40) (i0 := 3) (j := 3) (dK D_Mo_isOnOpenForm 23 rfl) rfl rfl ?_
  refine g_aloadn (pc := 41) (i0 := 0) (j := 0) (dK D_Mo_isOnOpenForm 24 rfl) rfl rfl ?_
  refine bnE h (fun p1 e_p1 h => ?_)
  refine vg_cV (pc := 42) (As := []) (rest := [V a3]) (mc' := 0) (ms' := 0) (dK D_Mo_isOnOpenForm 25 rfl) K_Mo_63 (fitK rfl) (ltK rfl) hc0 rfl (leK rfl) (leK rfl) (leK rfl) (tf_Mo_pageMany hc0 e_p1) (kcI (fun h_p1 => ?_))
  refine vg_icmp_gt (pc := 45) (t := 82) (dK D_Mo_isOnOpenForm 26 rfl) rfl ha3 h_p1 (fun hc10 => ?_) (fun hc10 => ?_)
  · replace h := ifP h hc10
    obtain rfl := Option.some.inj h
    refine gL_weak (ls' := [(2, V a2)]) (sbc 2 rfl sbn) ?_
    exact hx ha2
  · replace h := ifN h hc10
    refine g_iloadn (pc := 48) (i0 := 2) (j := 2) (dK D_Mo_isOnOpenForm 27 rfl) rfl rfl ?_
    refine g_aloadn (pc := 49) (i0 := 0) (j := 0) (dK D_Mo_isOnOpenForm 28 rfl) rfl rfl ?_
    refine g_iloadn (pc := 50) (i0 := 1) (j := 1) (dK D_Mo_isOnOpenForm 29 rfl) rfl rfl ?_
    refine vg_bipush (pc := 51) (dK D_Mo_isOnOpenForm 30 rfl) rfl ?_
    refine vg_isub (pc := 53) (dK D_Mo_isOnOpenForm 31 rfl) ?_
    refine g_iloadn (pc := 54) (i0 := 3) (j := 3) (dK D_Mo_isOnOpenForm 32 rfl) rfl rfl ?_
    refine nmE h (fun v2 e_v2 h => ?_)
    refine gsk (st' := [V a3, V v2, .ref c0, V a2]) (by rw [Vn e_v2]) ?_
    refine bnE h (fun p3 e_p3 h => ?_)
    refine vg_cV (pc := 55) (As := [V v2, V a3]) (rest := [V a2]) (mc' := 0) (ms' := 0) (dK D_Mo_isOnOpenForm 33 rfl) K_Mo_88 (fitK rfl) (ltK rfl) hc0 rfl (leK rfl) (leK rfl) (leK rfl) (tf_Mo_covers hc0 (Vn_in e_v2) ha3 e_p3) (kcB ?_)
    refine vg_ifB_eq (pc := 58) (b := p3) (t := 73) (dK D_Mo_isOnOpenForm 34 rfl) rfl (fun hc4 => ?_) (fun hc4 => ?_)
    · replace h := ifP h hc4
      refine g_aloadn (pc := 61) (i0 := 0) (j := 0) (dK D_Mo_isOnOpenForm 35 rfl) rfl rfl ?_
      refine g_iloadn (pc := 62) (i0 := 3) (j := 3) (dK D_Mo_isOnOpenForm 36 rfl) rfl rfl ?_
      refine bnE h (fun p6 e_p6 h => ?_)
      refine vg_cV (pc := 63) (As := [V a3]) (rest := [V a2]) (mc' := 0) (ms' := 0) (dK D_Mo_isOnOpenForm 37 rfl) K_Mo_109 (fitK rfl) (ltK rfl) hc0 rfl (leK rfl) (leK rfl) (leK rfl) (tf_Mo_isPrinted hc0 ha3 e_p6) (kcB ?_)
      refine vg_ifB_ne (pc := 66) (b := p6) (t := 73) (dK D_Mo_isOnOpenForm 38 rfl) rfl (fun hc7 => ?_) (fun hc7 => ?_)
      · replace h := ifP h hc7
        refine vg_iconst (pc := 73) (dK D_Mo_isOnOpenForm 41 rfl) ?_
        refine vg_ior (pc := 74) (dK D_Mo_isOnOpenForm 42 rfl) ?_
        refine g_istoren (pc := 75) (i0 := 2) (ls2 := [(2, V (i_or a2 0)), (0, .ref c0), (1, V a1), (3, V a3)]) (dK D_Mo_isOnOpenForm 43 rfl) rfl (ltK rfl) rfl ?_
        refine nmE h (fun v8 e_v8 h => ?_)
        refine vg_iinc (pc := 76) (j := 3) (a := a3) (z := 1) (ls2 := [(3, V v8), (2, V (i_or a2 0)), (0, .ref c0), (1, V a1)]) (dK D_Mo_isOnOpenForm 44 rfl) rfl e_v8 (ltK rfl) rfl ?_
        refine g_goto (pc := 79) (tgt := 40) (dK D_Mo_isOnOpenForm 45 rfl) rfl ?_
        refine gL_weak (ls' := [(0, .ref c0), (1, V a1), (2, V (i_or a2 0)), (3, V v8)]) (sbc 2 rfl (sbc 3 rfl (sbc 1 rfl (sbc 0 rfl sbn)))) ?_
        replace h := ih _ h
        exact h (toInt_in _) (Vn_in e_v8)
      · replace h := ifN h hc7
        refine vg_iconst (pc := 69) (dK D_Mo_isOnOpenForm 39 rfl) ?_
        refine g_goto (pc := 70) (tgt := 74) (dK D_Mo_isOnOpenForm 40 rfl) rfl ?_
        refine vg_ior (pc := 74) (dK D_Mo_isOnOpenForm 42 rfl) ?_
        refine g_istoren (pc := 75) (i0 := 2) (ls2 := [(2, V (i_or a2 1)), (0, .ref c0), (1, V a1), (3, V a3)]) (dK D_Mo_isOnOpenForm 43 rfl) rfl (ltK rfl) rfl ?_
        refine nmE h (fun v9 e_v9 h => ?_)
        refine vg_iinc (pc := 76) (j := 3) (a := a3) (z := 1) (ls2 := [(3, V v9), (2, V (i_or a2 1)), (0, .ref c0), (1, V a1)]) (dK D_Mo_isOnOpenForm 44 rfl) rfl e_v9 (ltK rfl) rfl ?_
        refine g_goto (pc := 79) (tgt := 40) (dK D_Mo_isOnOpenForm 45 rfl) rfl ?_
        refine gL_weak (ls' := [(0, .ref c0), (1, V a1), (2, V (i_or a2 1)), (3, V v9)]) (sbc 2 rfl (sbc 3 rfl (sbc 1 rfl (sbc 0 rfl sbn)))) ?_
        replace h := ih _ h
        exact h (toInt_in _) (Vn_in e_v9)
    · replace h := ifN h hc4
      refine vg_iconst (pc := 73) (dK D_Mo_isOnOpenForm 41 rfl) ?_
      refine vg_ior (pc := 74) (dK D_Mo_isOnOpenForm 42 rfl) ?_
      refine g_istoren (pc := 75) (i0 := 2) (ls2 := [(2, V (i_or a2 0)), (0, .ref c0), (1, V a1), (3, V a3)]) (dK D_Mo_isOnOpenForm 43 rfl) rfl (ltK rfl) rfl ?_
      refine nmE h (fun v5 e_v5 h => ?_)
      refine vg_iinc (pc := 76) (j := 3) (a := a3) (z := 1) (ls2 := [(3, V v5), (2, V (i_or a2 0)), (0, .ref c0), (1, V a1)]) (dK D_Mo_isOnOpenForm 44 rfl) rfl e_v5 (ltK rfl) rfl ?_
      refine g_goto (pc := 79) (tgt := 40) (dK D_Mo_isOnOpenForm 45 rfl) rfl ?_
      refine gL_weak (ls' := [(0, .ref c0), (1, V a1), (2, V (i_or a2 0)), (3, V v5)]) (sbc 2 rfl (sbc 3 rfl (sbc 1 rfl (sbc 0 rfl sbn)))) ?_
      replace h := ih _ h
      exact h (toInt_in _) (Vn_in e_v5)
def fn_Mo_isOnOpenForm (c0 : Nat) (a1 : Int) (S : St) : Option (Bool) := if 100 ≤ a1 then (bnO (lo_Mo_isOnOpenForm_40 c0 a1 S FU (0, 1)) fun p11 => if p11 = 0 ∨ p11 = 1 then (some (decide (p11 = 1))) else none) else (bnO (fn_Mo_ofAd c0 a1 6 S) fun p13 => if p13 ≤ 0 then (some false) else (bnO (fn_Mo_ofAd c0 a1 6 S) fun p14 => bnO (fn_Mo_isPrinted c0 p14 S) fun p15 => if p15 = true then (some false) else (some true)))
theorem tf_Mo_isOnOpenForm {E : EV} {X : XT} {c0 : Nat} (hc0 : HC X 11 c0) {a1 : Int} (ha1 : inR a1) {S : St} {q : Bool} (h : fn_Mo_isOnOpenForm c0 a1 S = some q) : Ev E M_Mo_isOnOpenForm [.ref c0, V a1] (WX X S) 0 0 (KB X q S) := by
  refine Ev.of pn_Mo rfl (leK rfl) ?_
  show Go E M_Mo_isOnOpenForm 0 0 0 [(0, .ref c0), (1, V a1)] [] (WX X S) 0 0 (KB X q S)
  unfold fn_Mo_isOnOpenForm at h
  refine g_iloadn (pc := 0) (i0 := 1) (j := 1) (dK D_Mo_isOnOpenForm 0 rfl) rfl rfl ?_
  refine vg_bipush (pc := 1) (dK D_Mo_isOnOpenForm 1 rfl) rfl ?_
  refine vg_icmp_ge (pc := 3) (t := 36) (dK D_Mo_isOnOpenForm 2 rfl) rfl ha1 (inRk rfl) (fun hc18 => ?_) (fun hc18 => ?_)
  · replace h := ifP h hc18
    refine vg_iconst (pc := 36) (dK D_Mo_isOnOpenForm 19 rfl) ?_
    refine g_istoren (pc := 37) (i0 := 2) (ls2 := [(2, V 0), (0, .ref c0), (1, V a1)]) (dK D_Mo_isOnOpenForm 20 rfl) rfl (ltK rfl) rfl ?_
    refine vg_iconst (pc := 38) (dK D_Mo_isOnOpenForm 21 rfl) ?_
    refine g_istoren (pc := 39) (i0 := 3) (ls2 := [(3, V 1), (2, V 0), (0, .ref c0), (1, V a1)]) (dK D_Mo_isOnOpenForm 22 rfl) rfl (ltK rfl) rfl ?_
    refine bnE h (fun p11 e_p11 h => ?_)
    refine gL_weak (ls' := [(0, .ref c0), (1, V a1), (2, V 0), (3, V 1)]) (sbc 2 rfl (sbc 3 rfl (sbc 1 rfl (sbc 0 rfl sbn)))) ?_
    refine tl_Mo_isOnOpenForm_40 hc0 ha1 (fun hx2_p11 => ?_) FU (0, 1) e_p11 (inRk rfl) (inRk rfl)
    refine g_iloadn (pc := 82) (i0 := 2) (j := 0) (dK D_Mo_isOnOpenForm 46 rfl) rfl rfl ?_
    refine gdE h (fun hb12 h => ?_)
    refine gsk (st' := [V (bi (decide (p11 = 1)))]) (congrArg (fun z => [z]) (V_bi hb12).symm) ?_
    exact vg_iretB (pc := 83) (b := (decide (p11 = 1))) (dK D_Mo_isOnOpenForm 47 rfl) rfl (leK rfl) (leK rfl) (fun _ => rfl) (by obtain rfl := Option.some.inj h; exact ⟨rfl, rfl⟩)
  · replace h := ifN h hc18
    refine g_aloadn (pc := 6) (i0 := 0) (j := 0) (dK D_Mo_isOnOpenForm 3 rfl) rfl rfl ?_
    refine g_iloadn (pc := 7) (i0 := 1) (j := 1) (dK D_Mo_isOnOpenForm 4 rfl) rfl rfl ?_
    refine vg_bipush (pc := 8) (dK D_Mo_isOnOpenForm 5 rfl) rfl ?_
    refine bnE h (fun p13 e_p13 h => ?_)
    refine vg_cV (pc := 10) (As := [V a1, V 6]) (rest := []) (mc' := 0) (ms' := 0) (dK D_Mo_isOnOpenForm 6 rfl) K_Mo_82 (fitK rfl) (ltK rfl) hc0 rfl (leK rfl) (leK rfl) (leK rfl) (tf_Mo_ofAd hc0 ha1 (inRk rfl) e_p13) (kcI (fun h_p13 => ?_))
    refine vg_if_le (pc := 13) (t := 34) (dK D_Mo_isOnOpenForm 7 rfl) rfl h_p13 (fun hc17 => ?_) (fun hc17 => ?_)
    · replace h := ifP h hc17
      refine vg_iconst (pc := 34) (dK D_Mo_isOnOpenForm 17 rfl) ?_
      exact vg_iretB (pc := 35) (b := false) (dK D_Mo_isOnOpenForm 18 rfl) rfl (leK rfl) (leK rfl) (fun _ => rfl) (by obtain rfl := Option.some.inj h; exact ⟨rfl, rfl⟩)
    · replace h := ifN h hc17
      refine g_aloadn (pc := 16) (i0 := 0) (j := 0) (dK D_Mo_isOnOpenForm 8 rfl) rfl rfl ?_
      refine g_aloadn (pc := 17) (i0 := 0) (j := 0) (dK D_Mo_isOnOpenForm 9 rfl) rfl rfl ?_
      refine g_iloadn (pc := 18) (i0 := 1) (j := 1) (dK D_Mo_isOnOpenForm 10 rfl) rfl rfl ?_
      refine vg_bipush (pc := 19) (dK D_Mo_isOnOpenForm 11 rfl) rfl ?_
      refine bnE h (fun p14 e_p14 h => ?_)
      refine vg_cV (pc := 21) (As := [V a1, V 6]) (rest := [.ref c0]) (mc' := 0) (ms' := 0) (dK D_Mo_isOnOpenForm 12 rfl) K_Mo_82 (fitK rfl) (ltK rfl) hc0 rfl (leK rfl) (leK rfl) (leK rfl) (tf_Mo_ofAd hc0 ha1 (inRk rfl) e_p14) (kcI (fun h_p14 => ?_))
      refine bnE h (fun p15 e_p15 h => ?_)
      refine vg_cV (pc := 24) (As := [V p14]) (rest := []) (mc' := 0) (ms' := 0) (dK D_Mo_isOnOpenForm 13 rfl) K_Mo_109 (fitK rfl) (ltK rfl) hc0 rfl (leK rfl) (leK rfl) (leK rfl) (tf_Mo_isPrinted hc0 h_p14 e_p15) (kcB ?_)
      refine vg_ifB_ne (pc := 27) (b := p15) (t := 34) (dK D_Mo_isOnOpenForm 14 rfl) rfl (fun hc16 => ?_) (fun hc16 => ?_)
      · replace h := ifP h hc16
        refine vg_iconst (pc := 34) (dK D_Mo_isOnOpenForm 17 rfl) ?_
        exact vg_iretB (pc := 35) (b := false) (dK D_Mo_isOnOpenForm 18 rfl) rfl (leK rfl) (leK rfl) (fun _ => rfl) (by obtain rfl := Option.some.inj h; exact ⟨rfl, rfl⟩)
      · replace h := ifN h hc16
        refine vg_iconst (pc := 30) (dK D_Mo_isOnOpenForm 15 rfl) ?_
        refine g_goto (pc := 31) (tgt := 35) (dK D_Mo_isOnOpenForm 16 rfl) rfl ?_
        exact vg_iretB (pc := 35) (b := true) (dK D_Mo_isOnOpenForm 18 rfl) rfl (leK rfl) (leK rfl) (fun _ => rfl) (by obtain rfl := Option.some.inj h; exact ⟨rfl, rfl⟩)
def fn_Mo_isLateItem (c0 : Nat) (a1 : Int) (S : St) : Option (Bool) := bnO (fn_Mo_isItem c0 a1 S) fun p1 => if p1 = true then (bnO (fn_Mo_readyOf c0 a1 S) fun p3 => if p3 ≤ (g S (tgt c0 0) 0) then (some false) else (bnO (fn_Mo_isOnOpenForm c0 a1 S) fun p4 => if p4 = true then (some true) else (some false))) else (some false)
theorem tf_Mo_isLateItem {E : EV} {X : XT} {c0 : Nat} (hc0 : HC X 11 c0) {a1 : Int} (ha1 : inR a1) {S : St} {q : Bool} (h : fn_Mo_isLateItem c0 a1 S = some q) : Ev E M_Mo_isLateItem [.ref c0, V a1] (WX X S) 0 0 (KB X q S) := by
  refine Ev.of pn_Mo rfl (leK rfl) ?_
  show Go E M_Mo_isLateItem 0 0 0 [(0, .ref c0), (1, V a1)] [] (WX X S) 0 0 (KB X q S)
  unfold fn_Mo_isLateItem at h
  refine g_aloadn (pc := 0) (i0 := 0) (j := 0) (dK D_Mo_isLateItem 0 rfl) rfl rfl ?_
  refine g_iloadn (pc := 1) (i0 := 1) (j := 1) (dK D_Mo_isLateItem 1 rfl) rfl rfl ?_
  refine bnE h (fun p1 e_p1 h => ?_)
  refine vg_cV (pc := 2) (As := [V a1]) (rest := []) (mc' := 0) (ms' := 0) (dK D_Mo_isLateItem 2 rfl) K_Mo_278 (fitK rfl) (ltK rfl) hc0 rfl (leK rfl) (leK rfl) (leK rfl) (tf_Mo_isItem hc0 ha1 e_p1) (kcB ?_)
  refine vg_ifB_eq (pc := 5) (b := p1) (t := 34) (dK D_Mo_isLateItem 3 rfl) rfl (fun hc2 => ?_) (fun hc2 => ?_)
  · replace h := ifP h hc2
    refine g_aloadn (pc := 8) (i0 := 0) (j := 0) (dK D_Mo_isLateItem 4 rfl) rfl rfl ?_
    refine g_iloadn (pc := 9) (i0 := 1) (j := 1) (dK D_Mo_isLateItem 5 rfl) rfl rfl ?_
    refine bnE h (fun p3 e_p3 h => ?_)
    refine vg_cV (pc := 10) (As := [V a1]) (rest := []) (mc' := 0) (ms' := 0) (dK D_Mo_isLateItem 6 rfl) K_Mo_281 (fitK rfl) (ltK rfl) hc0 rfl (leK rfl) (leK rfl) (leK rfl) (tf_Mo_readyOf hc0 ha1 e_p3) (kcI (fun h_p3 => ?_))
    refine g_aloadn (pc := 13) (i0 := 0) (j := 0) (dK D_Mo_isLateItem 7 rfl) rfl rfl ?_
    refine vg_getA (pc := 14) (ci := 11) (f := 0) (dK D_Mo_isLateItem 8 rfl) q_1442 hc0 (ltK rfl) (ltK rfl) rfl ?_
    refine vg_iconst (pc := 17) (dK D_Mo_isLateItem 9 rfl) ?_
    refine vg_iaload (pc := 18) (j := 0) (dK D_Mo_isLateItem 10 rfl) (hw_11_0 hc0) rfl ⟨by decide, by decide⟩ rfl ?_
    refine vg_icmp_le (pc := 19) (t := 34) (dK D_Mo_isLateItem 11 rfl) rfl h_p3 (g_in _ _ _) (fun hc6 => ?_) (fun hc6 => ?_)
    · replace h := ifP h hc6
      refine vg_iconst (pc := 34) (dK D_Mo_isLateItem 18 rfl) ?_
      exact vg_iretB (pc := 35) (b := false) (dK D_Mo_isLateItem 19 rfl) rfl (leK rfl) (leK rfl) (fun _ => rfl) (by obtain rfl := Option.some.inj h; exact ⟨rfl, rfl⟩)
    · replace h := ifN h hc6
      refine g_aloadn (pc := 22) (i0 := 0) (j := 0) (dK D_Mo_isLateItem 12 rfl) rfl rfl ?_
      refine g_iloadn (pc := 23) (i0 := 1) (j := 1) (dK D_Mo_isLateItem 13 rfl) rfl rfl ?_
      refine bnE h (fun p4 e_p4 h => ?_)
      refine vg_cV (pc := 24) (As := [V a1]) (rest := []) (mc' := 0) (ms' := 0) (dK D_Mo_isLateItem 14 rfl) K_Mo_284 (fitK rfl) (ltK rfl) hc0 rfl (leK rfl) (leK rfl) (leK rfl) (tf_Mo_isOnOpenForm hc0 ha1 e_p4) (kcB ?_)
      refine vg_ifB_eq (pc := 27) (b := p4) (t := 34) (dK D_Mo_isLateItem 15 rfl) rfl (fun hc5 => ?_) (fun hc5 => ?_)
      · replace h := ifP h hc5
        refine vg_iconst (pc := 30) (dK D_Mo_isLateItem 16 rfl) ?_
        refine g_goto (pc := 31) (tgt := 35) (dK D_Mo_isLateItem 17 rfl) rfl ?_
        exact vg_iretB (pc := 35) (b := true) (dK D_Mo_isLateItem 19 rfl) rfl (leK rfl) (leK rfl) (fun _ => rfl) (by obtain rfl := Option.some.inj h; exact ⟨rfl, rfl⟩)
      · replace h := ifN h hc5
        refine vg_iconst (pc := 34) (dK D_Mo_isLateItem 18 rfl) ?_
        exact vg_iretB (pc := 35) (b := false) (dK D_Mo_isLateItem 19 rfl) rfl (leK rfl) (leK rfl) (fun _ => rfl) (by obtain rfl := Option.some.inj h; exact ⟨rfl, rfl⟩)
  · replace h := ifN h hc2
    refine vg_iconst (pc := 34) (dK D_Mo_isLateItem 18 rfl) ?_
    exact vg_iretB (pc := 35) (b := false) (dK D_Mo_isLateItem 19 rfl) rfl (leK rfl) (leK rfl) (fun _ => rfl) (by obtain rfl := Option.some.inj h; exact ⟨rfl, rfl⟩)
def lb_Mo_lateItem_29 (c0 : Nat) (a1 : Int) (a2 : Int) (S : St) (go : Int × Int → Option (Int)) (a3 : Int) (a4 : Int) : Option (Int) := if 110 ≤ a4 then (some a3) else (bnO (fn_Mo_isLateItem c0 a4 S) fun p4 => if p4 = true then (bnO (fn_Mo_readyOf c0 a4 S) fun p8 => bnO (fn_Mo_readyOf c0 a2 S) fun p9 => if p8 < p9 then (nm (wr (a3 + 1)) fun v10 => nm (wr (a4 + 1)) fun v11 => go (v10, v11)) else (bnO (fn_Mo_readyOf c0 a4 S) fun p12 => bnO (fn_Mo_readyOf c0 a2 S) fun p13 => if p12 = p13 then (if a2 ≤ a4 then (nm (wr (a3 + 0)) fun v16 => nm (wr (a4 + 1)) fun v17 => go (v16, v17)) else (nm (wr (a3 + 1)) fun v18 => nm (wr (a4 + 1)) fun v19 => go (v18, v19))) else (nm (wr (a3 + 0)) fun v14 => nm (wr (a4 + 1)) fun v15 => go (v14, v15)))) else (nm (wr (a3 + 0)) fun v6 => nm (wr (a4 + 1)) fun v7 => go (v6, v7)))
def lo_Mo_lateItem_29 (c0 : Nat) (a1 : Int) (a2 : Int) (S : St) : Nat → Int × Int → Option (Int) := lp fun go p => lb_Mo_lateItem_29 c0 a1 a2 S go p.1 p.2
set_option maxHeartbeats 20000000 in
theorem tl_Mo_lateItem_29 {E : EV} {X : XT} {c0 : Nat} (hc0 : HC X 11 c0) {a1 : Int} (ha1 : inR a1) {a2 : Int} (ha2 : inR a2) {S : St} {K : RK → PS → Prop} {q : Int} (hx : inR q → Go E M_Mo_lateItem 0 0 93 [(0, .ref c0), (1, V a1), (2, V a2), (3, V q)] [] (WX X S) 0 0 K) : ∀ n a, lo_Mo_lateItem_29 c0 a1 a2 S n a = some q → inR a.1 → inR a.2 → Go E M_Mo_lateItem 0 0 29 [(0, .ref c0), (1, V a1), (2, V a2), (3, V a.1), (4, V a.2)] [] (WX X S) 0 0 K := by
  refine lp_ind (P := fun a : Int × Int => inR a.1 → inR a.2 → Go E M_Mo_lateItem 0 0 29 [(0, .ref c0), (1, V a1), (2, V a2), (3, V a.1), (4, V a.2)] [] (WX X S) 0 0 K) (fun go ih a h => ?_)
  obtain ⟨a3, a4⟩ := a
  intro ha3 ha4
  show Go E M_Mo_lateItem 0 0 29 [(0, .ref c0), (1, V a1), (2, V a2), (3, V a3), (4, V a4)] [] (WX X S) 0 0 K
  replace h : lb_Mo_lateItem_29 c0 a1 a2 S go a3 a4 = some q := h
  unfold lb_Mo_lateItem_29 at h
  refine g_iload (pc := 29) (j := 4) (dK D_Mo_lateItem_0 17 rfl) rfl ?_
  refine vg_bipush (pc := 31) (dK D_Mo_lateItem_0 18 rfl) rfl ?_
  refine vg_icmp_ge (pc := 33) (t := 93) (dK D_Mo_lateItem_0 19 rfl) rfl ha4 (inRk rfl) (fun hc23 => ?_) (fun hc23 => ?_)
  · replace h := ifP h hc23
    obtain rfl := Option.some.inj h
    refine gL_weak (ls' := [(0, .ref c0), (1, V a1), (2, V a2), (3, V a3)]) (sbc 0 rfl (sbc 1 rfl (sbc 2 rfl (sbc 3 rfl sbn)))) ?_
    exact hx ha3
  · replace h := ifN h hc23
    refine g_iloadn (pc := 36) (i0 := 3) (j := 3) (dK D_Mo_lateItem_0 20 rfl) rfl rfl ?_
    refine g_aloadn (pc := 37) (i0 := 0) (j := 0) (dK D_Mo_lateItem_0 21 rfl) rfl rfl ?_
    refine g_iload (pc := 38) (j := 4) (dK D_Mo_lateItem_0 22 rfl) rfl ?_
    refine bnE h (fun p4 e_p4 h => ?_)
    refine vg_cV (pc := 40) (As := [V a4]) (rest := [V a3]) (mc' := 0) (ms' := 0) (dK D_Mo_lateItem_0 23 rfl) K_Mo_287 (fitK rfl) (ltK rfl) hc0 rfl (leK rfl) (leK rfl) (leK rfl) (tf_Mo_isLateItem hc0 ha4 e_p4) (kcB ?_)
    refine vg_ifB_eq (pc := 43) (b := p4) (t := 84) (dK D_Mo_lateItem_0 24 rfl) rfl (fun hc5 => ?_) (fun hc5 => ?_)
    · replace h := ifP h hc5
      refine g_aloadn (pc := 46) (i0 := 0) (j := 0) (dK D_Mo_lateItem_0 25 rfl) rfl rfl ?_
      refine g_iload (pc := 47) (j := 4) (dK D_Mo_lateItem_0 26 rfl) rfl ?_
      refine bnE h (fun p8 e_p8 h => ?_)
      refine vg_cV (pc := 49) (As := [V a4]) (rest := [V a3]) (mc' := 0) (ms' := 0) (dK D_Mo_lateItem_0 27 rfl) K_Mo_281 (fitK rfl) (ltK rfl) hc0 rfl (leK rfl) (leK rfl) (leK rfl) (tf_Mo_readyOf hc0 ha4 e_p8) (kcI (fun h_p8 => ?_))
      refine g_aloadn (pc := 52) (i0 := 0) (j := 0) (dK D_Mo_lateItem_0 28 rfl) rfl rfl ?_
      refine g_iloadn (pc := 53) (i0 := 2) (j := 2) (dK D_Mo_lateItem_0 29 rfl) rfl rfl ?_
      refine bnE h (fun p9 e_p9 h => ?_)
      refine vg_cV (pc := 54) (As := [V a2]) (rest := [V p8, V a3]) (mc' := 0) (ms' := 0) (dK D_Mo_lateItem_0 30 rfl) K_Mo_281 (fitK rfl) (ltK rfl) hc0 rfl (leK rfl) (leK rfl) (leK rfl) (tf_Mo_readyOf hc0 ha2 e_p9) (kcI (fun h_p9 => ?_))
      refine vg_icmp_lt (pc := 57) (t := 80) (dK D_Mo_lateItem_0 31 rfl) rfl h_p8 h_p9 (fun hc22 => ?_) (fun hc22 => ?_)
      · replace h := ifP h hc22
        refine vg_iconst (pc := 80) (dK D_Mo_lateItem_0 42 rfl) ?_
        refine g_goto (pc := 81) (tgt := 85) (dK D_Mo_lateItem_0 43 rfl) rfl ?_
        refine vg_iadd (pc := 85) (dK D_Mo_lateItem_0 45 rfl) ?_
        refine nmE h (fun v10 e_v10 h => ?_)
        refine gtop e_v10 ?_
        refine g_istoren (pc := 86) (i0 := 3) (ls2 := [(3, V v10), (0, .ref c0), (1, V a1), (2, V a2), (4, V a4)]) (dK D_Mo_lateItem_0 46 rfl) rfl (ltK rfl) rfl ?_
        refine nmE h (fun v11 e_v11 h => ?_)
        refine vg_iinc (pc := 87) (j := 4) (a := a4) (z := 1) (ls2 := [(4, V v11), (3, V v10), (0, .ref c0), (1, V a1), (2, V a2)]) (dK D_Mo_lateItem_0 47 rfl) rfl e_v11 (ltK rfl) rfl ?_
        refine g_goto (pc := 90) (tgt := 29) (dK D_Mo_lateItem_0 48 rfl) rfl ?_
        refine gL_weak (ls' := [(0, .ref c0), (1, V a1), (2, V a2), (3, V v10), (4, V v11)]) (sbc 2 rfl (sbc 3 rfl (sbc 4 rfl (sbc 1 rfl (sbc 0 rfl sbn))))) ?_
        replace h := ih _ h
        exact h (Vn_in e_v10) (Vn_in e_v11)
      · replace h := ifN h hc22
        refine g_aloadn (pc := 60) (i0 := 0) (j := 0) (dK D_Mo_lateItem_0 32 rfl) rfl rfl ?_
        refine g_iload (pc := 61) (j := 4) (dK D_Mo_lateItem_0 33 rfl) rfl ?_
        refine bnE h (fun p12 e_p12 h => ?_)
        refine vg_cV (pc := 63) (As := [V a4]) (rest := [V a3]) (mc' := 0) (ms' := 0) (dK D_Mo_lateItem_0 34 rfl) K_Mo_281 (fitK rfl) (ltK rfl) hc0 rfl (leK rfl) (leK rfl) (leK rfl) (tf_Mo_readyOf hc0 ha4 e_p12) (kcI (fun h_p12 => ?_))
        refine g_aloadn (pc := 66) (i0 := 0) (j := 0) (dK D_Mo_lateItem_0 35 rfl) rfl rfl ?_
        refine g_iloadn (pc := 67) (i0 := 2) (j := 2) (dK D_Mo_lateItem_0 36 rfl) rfl rfl ?_
        refine bnE h (fun p13 e_p13 h => ?_)
        refine vg_cV (pc := 68) (As := [V a2]) (rest := [V p12, V a3]) (mc' := 0) (ms' := 0) (dK D_Mo_lateItem_0 37 rfl) K_Mo_281 (fitK rfl) (ltK rfl) hc0 rfl (leK rfl) (leK rfl) (leK rfl) (tf_Mo_readyOf hc0 ha2 e_p13) (kcI (fun h_p13 => ?_))
        refine vg_icmp_ne (pc := 71) (t := 84) (dK D_Mo_lateItem_0 38 rfl) rfl h_p12 h_p13 (fun hc21 => ?_) (fun hc21 => ?_)
        · replace h := ifN h hc21
          refine vg_iconst (pc := 84) (dK D_Mo_lateItem_0 44 rfl) ?_
          refine vg_iadd (pc := 85) (dK D_Mo_lateItem_0 45 rfl) ?_
          refine nmE h (fun v14 e_v14 h => ?_)
          refine gtop e_v14 ?_
          refine g_istoren (pc := 86) (i0 := 3) (ls2 := [(3, V v14), (0, .ref c0), (1, V a1), (2, V a2), (4, V a4)]) (dK D_Mo_lateItem_0 46 rfl) rfl (ltK rfl) rfl ?_
          refine nmE h (fun v15 e_v15 h => ?_)
          refine vg_iinc (pc := 87) (j := 4) (a := a4) (z := 1) (ls2 := [(4, V v15), (3, V v14), (0, .ref c0), (1, V a1), (2, V a2)]) (dK D_Mo_lateItem_0 47 rfl) rfl e_v15 (ltK rfl) rfl ?_
          refine g_goto (pc := 90) (tgt := 29) (dK D_Mo_lateItem_0 48 rfl) rfl ?_
          refine gL_weak (ls' := [(0, .ref c0), (1, V a1), (2, V a2), (3, V v14), (4, V v15)]) (sbc 2 rfl (sbc 3 rfl (sbc 4 rfl (sbc 1 rfl (sbc 0 rfl sbn))))) ?_
          replace h := ih _ h
          exact h (Vn_in e_v14) (Vn_in e_v15)
        · replace h := ifP h hc21
          refine g_iload (pc := 74) (j := 4) (dK D_Mo_lateItem_0 39 rfl) rfl ?_
          refine g_iloadn (pc := 76) (i0 := 2) (j := 2) (dK D_Mo_lateItem_0 40 rfl) rfl rfl ?_
          refine vg_icmp_ge (pc := 77) (t := 84) (dK D_Mo_lateItem_0 41 rfl) rfl ha4 ha2 (fun hc20 => ?_) (fun hc20 => ?_)
          · replace h := ifP h hc20
            refine vg_iconst (pc := 84) (dK D_Mo_lateItem_0 44 rfl) ?_
            refine vg_iadd (pc := 85) (dK D_Mo_lateItem_0 45 rfl) ?_
            refine nmE h (fun v16 e_v16 h => ?_)
            refine gtop e_v16 ?_
            refine g_istoren (pc := 86) (i0 := 3) (ls2 := [(3, V v16), (0, .ref c0), (1, V a1), (2, V a2), (4, V a4)]) (dK D_Mo_lateItem_0 46 rfl) rfl (ltK rfl) rfl ?_
            refine nmE h (fun v17 e_v17 h => ?_)
            refine vg_iinc (pc := 87) (j := 4) (a := a4) (z := 1) (ls2 := [(4, V v17), (3, V v16), (0, .ref c0), (1, V a1), (2, V a2)]) (dK D_Mo_lateItem_0 47 rfl) rfl e_v17 (ltK rfl) rfl ?_
            refine g_goto (pc := 90) (tgt := 29) (dK D_Mo_lateItem_0 48 rfl) rfl ?_
            refine gL_weak (ls' := [(0, .ref c0), (1, V a1), (2, V a2), (3, V v16), (4, V v17)]) (sbc 2 rfl (sbc 3 rfl (sbc 4 rfl (sbc 1 rfl (sbc 0 rfl sbn))))) ?_
            replace h := ih _ h
            exact h (Vn_in e_v16) (Vn_in e_v17)
          · replace h := ifN h hc20
            refine vg_iconst (pc := 80) (dK D_Mo_lateItem_0 42 rfl) ?_
            refine g_goto (pc := 81) (tgt := 85) (dK D_Mo_lateItem_0 43 rfl) rfl ?_
            refine vg_iadd (pc := 85) (dK D_Mo_lateItem_0 45 rfl) ?_
            refine nmE h (fun v18 e_v18 h => ?_)
            refine gtop e_v18 ?_
            refine g_istoren (pc := 86) (i0 := 3) (ls2 := [(3, V v18), (0, .ref c0), (1, V a1), (2, V a2), (4, V a4)]) (dK D_Mo_lateItem_0 46 rfl) rfl (ltK rfl) rfl ?_
            refine nmE h (fun v19 e_v19 h => ?_)
            refine vg_iinc (pc := 87) (j := 4) (a := a4) (z := 1) (ls2 := [(4, V v19), (3, V v18), (0, .ref c0), (1, V a1), (2, V a2)]) (dK D_Mo_lateItem_0 47 rfl) rfl e_v19 (ltK rfl) rfl ?_
            refine g_goto (pc := 90) (tgt := 29) (dK D_Mo_lateItem_0 48 rfl) rfl ?_
            refine gL_weak (ls' := [(0, .ref c0), (1, V a1), (2, V a2), (3, V v18), (4, V v19)]) (sbc 2 rfl (sbc 3 rfl (sbc 4 rfl (sbc 1 rfl (sbc 0 rfl sbn))))) ?_
            replace h := ih _ h
            exact h (Vn_in e_v18) (Vn_in e_v19)
    · replace h := ifN h hc5
      refine vg_iconst (pc := 84) (dK D_Mo_lateItem_0 44 rfl) ?_
      refine vg_iadd (pc := 85) (dK D_Mo_lateItem_0 45 rfl) ?_
      refine nmE h (fun v6 e_v6 h => ?_)
      refine gtop e_v6 ?_
      refine g_istoren (pc := 86) (i0 := 3) (ls2 := [(3, V v6), (0, .ref c0), (1, V a1), (2, V a2), (4, V a4)]) (dK D_Mo_lateItem_0 46 rfl) rfl (ltK rfl) rfl ?_
      refine nmE h (fun v7 e_v7 h => ?_)
      refine vg_iinc (pc := 87) (j := 4) (a := a4) (z := 1) (ls2 := [(4, V v7), (3, V v6), (0, .ref c0), (1, V a1), (2, V a2)]) (dK D_Mo_lateItem_0 47 rfl) rfl e_v7 (ltK rfl) rfl ?_
      refine g_goto (pc := 90) (tgt := 29) (dK D_Mo_lateItem_0 48 rfl) rfl ?_
      refine gL_weak (ls' := [(0, .ref c0), (1, V a1), (2, V a2), (3, V v6), (4, V v7)]) (sbc 2 rfl (sbc 3 rfl (sbc 4 rfl (sbc 1 rfl (sbc 0 rfl sbn))))) ?_
      replace h := ih _ h
      exact h (Vn_in e_v6) (Vn_in e_v7)
def lb_Mo_lateItem_7 (c0 : Nat) (a1 : Int) (S : St) (go : Int → Option ((Int) ⊕ (Unit))) (a2 : Int) : Option ((Int) ⊕ (Unit)) := if 110 ≤ a2 then (some (.inr ())) else (bnO (fn_Mo_isLateItem c0 a2 S) fun p2 => if p2 = true then (bnO (lo_Mo_lateItem_29 c0 a1 a2 S FU (0, 0)) fun p24 => if p24 = a1 then (some (.inl a2)) else (nm (wr (a2 + 1)) fun v25 => go v25)) else (nm (wr (a2 + 1)) fun v27 => go v27))
def lo_Mo_lateItem_7 (c0 : Nat) (a1 : Int) (S : St) : Nat → Int → Option ((Int) ⊕ (Unit)) := lp fun go p => lb_Mo_lateItem_7 c0 a1 S go p
theorem tl_Mo_lateItem_7 {E : EV} {X : XT} {c0 : Nat} (hc0 : HC X 11 c0) {a1 : Int} (ha1 : inR a1) {S : St} {K : RK → PS → Prop} {q : (Int) ⊕ (Unit)} (hx : ∀ p, q = .inr p → Go E M_Mo_lateItem 0 0 106 [] [] (WX X S) 0 0 K) (hr : ∀ p, q = .inl p → inR p → K (.inl (some (V p))) (WX X S)) : ∀ n a, lo_Mo_lateItem_7 c0 a1 S n a = some q → inR a → Go E M_Mo_lateItem 0 0 7 [(0, .ref c0), (1, V a1), (2, V a)] [] (WX X S) 0 0 K := by
  refine lp_ind (P := fun a : Int => inR a → Go E M_Mo_lateItem 0 0 7 [(0, .ref c0), (1, V a1), (2, V a)] [] (WX X S) 0 0 K) (fun go ih a2 h => ?_)
  intro ha2
  show Go E M_Mo_lateItem 0 0 7 [(0, .ref c0), (1, V a1), (2, V a2)] [] (WX X S) 0 0 K
  replace h : lb_Mo_lateItem_7 c0 a1 S go a2 = some q := h
  unfold lb_Mo_lateItem_7 at h
  refine g_iloadn (pc := 7) (i0 := 2) (j := 2) (dK D_Mo_lateItem_0 5 rfl) rfl rfl ?_
  refine vg_bipush (pc := 8) (dK D_Mo_lateItem_0 6 rfl) rfl ?_
  refine vg_icmp_ge (pc := 10) (t := 106) (dK D_Mo_lateItem_0 7 rfl) rfl ha2 (inRk rfl) (fun hc28 => ?_) (fun hc28 => ?_)
  · replace h := ifP h hc28
    refine gL_weak (ls' := []) sbn ?_
    exact hx _ (Option.some.inj h).symm 
  · replace h := ifN h hc28
    refine g_aloadn (pc := 13) (i0 := 0) (j := 0) (dK D_Mo_lateItem_0 8 rfl) rfl rfl ?_
    refine g_iloadn (pc := 14) (i0 := 2) (j := 2) (dK D_Mo_lateItem_0 9 rfl) rfl rfl ?_
    refine bnE h (fun p2 e_p2 h => ?_)
    refine vg_cV (pc := 15) (As := [V a2]) (rest := []) (mc' := 0) (ms' := 0) (dK D_Mo_lateItem_0 10 rfl) K_Mo_287 (fitK rfl) (ltK rfl) hc0 rfl (leK rfl) (leK rfl) (leK rfl) (tf_Mo_isLateItem hc0 ha2 e_p2) (kcB ?_)
    refine vg_ifB_ne (pc := 18) (b := p2) (t := 24) (dK D_Mo_lateItem_0 11 rfl) rfl (fun hc3 => ?_) (fun hc3 => ?_)
    · replace h := ifP h hc3
      refine vg_iconst (pc := 24) (dK D_Mo_lateItem_0 13 rfl) ?_
      refine g_istoren (pc := 25) (i0 := 3) (ls2 := [(3, V 0), (0, .ref c0), (1, V a1), (2, V a2)]) (dK D_Mo_lateItem_0 14 rfl) rfl (ltK rfl) rfl ?_
      refine vg_iconst (pc := 26) (dK D_Mo_lateItem_0 15 rfl) ?_
      refine g_istore (pc := 27) (ls2 := [(4, V 0), (3, V 0), (0, .ref c0), (1, V a1), (2, V a2)]) (dK D_Mo_lateItem_0 16 rfl) (ltK rfl) rfl ?_
      refine bnE h (fun p24 e_p24 h => ?_)
      refine gL_weak (ls' := [(0, .ref c0), (1, V a1), (2, V a2), (3, V 0), (4, V 0)]) (sbc 2 rfl (sbc 3 rfl (sbc 4 rfl (sbc 1 rfl (sbc 0 rfl sbn))))) ?_
      refine tl_Mo_lateItem_29 hc0 ha1 ha2 (fun hx3_p24 => ?_) FU (0, 0) e_p24 (inRk rfl) (inRk rfl)
      refine g_iloadn (pc := 93) (i0 := 3) (j := 3) (dK D_Mo_lateItem_0 49 rfl) rfl rfl ?_
      refine g_iloadn (pc := 94) (i0 := 1) (j := 1) (dK D_Mo_lateItem_1 0 rfl) rfl rfl ?_
      refine vg_icmp_ne (pc := 95) (t := 100) (dK D_Mo_lateItem_1 1 rfl) rfl hx3_p24 ha1 (fun hc26 => ?_) (fun hc26 => ?_)
      · replace h := ifN h hc26
        refine nmE h (fun v25 e_v25 h => ?_)
        refine vg_iinc (pc := 100) (j := 2) (a := a2) (z := 1) (ls2 := [(2, V v25), (0, .ref c0), (1, V a1), (3, V p24)]) (dK D_Mo_lateItem_1 4 rfl) rfl e_v25 (ltK rfl) rfl ?_
        refine g_goto (pc := 103) (tgt := 7) (dK D_Mo_lateItem_1 5 rfl) rfl ?_
        refine gL_weak (ls' := [(0, .ref c0), (1, V a1), (2, V v25)]) (sbc 1 rfl (sbc 2 rfl (sbc 0 rfl sbn))) ?_
        replace h := ih _ h
        exact h (Vn_in e_v25)
      · replace h := ifP h hc26
        refine g_iloadn (pc := 98) (i0 := 2) (j := 2) (dK D_Mo_lateItem_1 2 rfl) rfl rfl ?_
        exact vg_iretI (pc := 99) (r := a2) (dK D_Mo_lateItem_1 3 rfl) rfl (leK rfl) (leK rfl) (fun _ => rfl) (hr _ (Option.some.inj h).symm ha2)
    · replace h := ifN h hc3
      refine g_goto (pc := 21) (tgt := 100) (dK D_Mo_lateItem_0 12 rfl) rfl ?_
      refine nmE h (fun v27 e_v27 h => ?_)
      refine vg_iinc (pc := 100) (j := 2) (a := a2) (z := 1) (ls2 := [(2, V v27), (0, .ref c0), (1, V a1)]) (dK D_Mo_lateItem_1 4 rfl) rfl e_v27 (ltK rfl) rfl ?_
      refine g_goto (pc := 103) (tgt := 7) (dK D_Mo_lateItem_1 5 rfl) rfl ?_
      refine gL_weak (ls' := [(0, .ref c0), (1, V a1), (2, V v27)]) (sbc 1 rfl (sbc 2 rfl (sbc 0 rfl sbn))) ?_
      replace h := ih _ h
      exact h (Vn_in e_v27)
def fn_Mo_lateItem (c0 : Nat) (a1 : Int) (S : St) : Option (Int × St) := nm (u S c0 4 0) fun S1 => bnS (lo_Mo_lateItem_7 c0 a1 S1 FU 0) (fun p30 => some (p30, S1)) fun p29 => some ((-1), S1)
theorem tf_Mo_lateItem {E : EV} {X : XT} {c0 : Nat} (hc0 : HC X 11 c0) {a1 : Int} (ha1 : inR a1) {S : St} {q : Int × St} (h : fn_Mo_lateItem c0 a1 S = some q) : Ev E M_Mo_lateItem [.ref c0, V a1] (WX X S) 0 0 (KI X q.1 q.2) := by
  refine Ev.of pn_Mo rfl (leK rfl) ?_
  show Go E M_Mo_lateItem 0 0 0 [(0, .ref c0), (1, V a1)] [] (WX X S) 0 0 (KI X q.1 q.2)
  unfold fn_Mo_lateItem at h
  refine g_aloadn (pc := 0) (i0 := 0) (j := 0) (dK D_Mo_lateItem_0 0 rfl) rfl rfl ?_
  refine vg_iconst (pc := 1) (dK D_Mo_lateItem_0 1 rfl) ?_
  refine nmE h (fun S1 e_S1 h => ?_)
  refine vg_putI (pc := 2) (ci := 11) (f := 4) (z := 0) (dK D_Mo_lateItem_0 2 rfl) q_1446 hc0 (ltK rfl) (ltK rfl) rfl rfl e_S1 ?_
  refine vg_iconst (pc := 5) (dK D_Mo_lateItem_0 3 rfl) ?_
  refine g_istoren (pc := 6) (i0 := 2) (ls2 := [(2, V 0), (0, .ref c0), (1, V a1)]) (dK D_Mo_lateItem_0 4 rfl) rfl (ltK rfl) rfl ?_
  refine bnSE h (fun p30 e_p30 h => ?_) (fun p29 e_p29 h => ?_)
  · refine gL_weak (ls' := [(0, .ref c0), (1, V a1), (2, V 0)]) (sbc 1 rfl (sbc 2 rfl (sbc 0 rfl sbn))) ?_
    refine tl_Mo_lateItem_7 hc0 ha1 (fun _ e => slr e) (fun p e hr_p30 => ?_) FU 0 e_p30 (inRk rfl)
    have e := Sum.inl.inj e
    subst e
    exact (by obtain rfl := Option.some.inj h; exact ⟨rfl, hr_p30, rfl⟩)
  · refine gL_weak (ls' := [(0, .ref c0), (1, V a1), (2, V 0)]) (sbc 1 rfl (sbc 2 rfl (sbc 0 rfl sbn))) ?_
    refine tl_Mo_lateItem_7 hc0 ha1 (fun p e => ?_) (fun _ e => srl e) FU 0 e_p29 (inRk rfl)
    have e := Sum.inr.inj e
    subst e
    refine vg_iconst (pc := 106) (dK D_Mo_lateItem_1 6 rfl) ?_
    exact vg_iretI (pc := 107) (r := (-1)) (dK D_Mo_lateItem_1 7 rfl) rfl (leK rfl) (leK rfl) (fun _ => rfl) (by obtain rfl := Option.some.inj h; exact ⟨rfl, (inRk rfl), rfl⟩)
def lb_Mo_lastReady_9 (c0 : Nat) (S : St) (go : Int × Int → Option (Int)) (a1 : Int) (a2 : Int) : Option (Int) := if 110 ≤ a2 then (some a1) else (bnO (fn_Mo_isItem c0 a2 S) fun p2 => if p2 = true then (bnO (fn_Mo_isOnOpenForm c0 a2 S) fun p5 => if p5 = true then (if a1 = (-1) then (nm (wr (a2 + 1)) fun v8 => go (a2, v8)) else (bnO (fn_Mo_readyOf c0 a2 S) fun p9 => bnO (fn_Mo_readyOf c0 a1 S) fun p10 => if p9 ≤ p10 then (nm (wr (a2 + 1)) fun v11 => go (a1, v11)) else (nm (wr (a2 + 1)) fun v12 => go (a2, v12)))) else (nm (wr (a2 + 1)) fun v7 => go (a1, v7))) else (nm (wr (a2 + 1)) fun v4 => go (a1, v4)))
def lo_Mo_lastReady_9 (c0 : Nat) (S : St) : Nat → Int × Int → Option (Int) := lp fun go p => lb_Mo_lastReady_9 c0 S go p.1 p.2
theorem tl_Mo_lastReady_9 {E : EV} {X : XT} {c0 : Nat} (hc0 : HC X 11 c0) {S : St} {K : RK → PS → Prop} {q : Int} (hx : inR q → Go E M_Mo_lastReady 0 0 57 [(1, V q)] [] (WX X S) 0 0 K) : ∀ n a, lo_Mo_lastReady_9 c0 S n a = some q → inR a.1 → inR a.2 → Go E M_Mo_lastReady 0 0 9 [(0, .ref c0), (1, V a.1), (2, V a.2)] [] (WX X S) 0 0 K := by
  refine lp_ind (P := fun a : Int × Int => inR a.1 → inR a.2 → Go E M_Mo_lastReady 0 0 9 [(0, .ref c0), (1, V a.1), (2, V a.2)] [] (WX X S) 0 0 K) (fun go ih a h => ?_)
  obtain ⟨a1, a2⟩ := a
  intro ha1 ha2
  show Go E M_Mo_lastReady 0 0 9 [(0, .ref c0), (1, V a1), (2, V a2)] [] (WX X S) 0 0 K
  replace h : lb_Mo_lastReady_9 c0 S go a1 a2 = some q := h
  unfold lb_Mo_lastReady_9 at h
  refine g_iloadn (pc := 9) (i0 := 2) (j := 2) (dK D_Mo_lastReady 7 rfl) rfl rfl ?_
  refine vg_bipush (pc := 10) (dK D_Mo_lastReady 8 rfl) rfl ?_
  refine vg_icmp_ge (pc := 12) (t := 57) (dK D_Mo_lastReady 9 rfl) rfl ha2 (inRk rfl) (fun hc15 => ?_) (fun hc15 => ?_)
  · replace h := ifP h hc15
    obtain rfl := Option.some.inj h
    refine gL_weak (ls' := [(1, V a1)]) (sbc 1 rfl sbn) ?_
    exact hx ha1
  · replace h := ifN h hc15
    refine g_aloadn (pc := 15) (i0 := 0) (j := 0) (dK D_Mo_lastReady 10 rfl) rfl rfl ?_
    refine g_iloadn (pc := 16) (i0 := 2) (j := 2) (dK D_Mo_lastReady 11 rfl) rfl rfl ?_
    refine bnE h (fun p2 e_p2 h => ?_)
    refine vg_cV (pc := 17) (As := [V a2]) (rest := []) (mc' := 0) (ms' := 0) (dK D_Mo_lastReady 12 rfl) K_Mo_278 (fitK rfl) (ltK rfl) hc0 rfl (leK rfl) (leK rfl) (leK rfl) (tf_Mo_isItem hc0 ha2 e_p2) (kcB ?_)
    refine vg_ifB_eq (pc := 20) (b := p2) (t := 51) (dK D_Mo_lastReady 13 rfl) rfl (fun hc3 => ?_) (fun hc3 => ?_)
    · replace h := ifP h hc3
      refine g_aloadn (pc := 23) (i0 := 0) (j := 0) (dK D_Mo_lastReady 14 rfl) rfl rfl ?_
      refine g_iloadn (pc := 24) (i0 := 2) (j := 2) (dK D_Mo_lastReady 15 rfl) rfl rfl ?_
      refine bnE h (fun p5 e_p5 h => ?_)
      refine vg_cV (pc := 25) (As := [V a2]) (rest := []) (mc' := 0) (ms' := 0) (dK D_Mo_lastReady 16 rfl) K_Mo_284 (fitK rfl) (ltK rfl) hc0 rfl (leK rfl) (leK rfl) (leK rfl) (tf_Mo_isOnOpenForm hc0 ha2 e_p5) (kcB ?_)
      refine vg_ifB_eq (pc := 28) (b := p5) (t := 51) (dK D_Mo_lastReady 17 rfl) rfl (fun hc6 => ?_) (fun hc6 => ?_)
      · replace h := ifP h hc6
        refine g_iloadn (pc := 31) (i0 := 1) (j := 1) (dK D_Mo_lastReady 18 rfl) rfl rfl ?_
        refine vg_iconst (pc := 32) (dK D_Mo_lastReady 19 rfl) ?_
        refine vg_icmp_eq (pc := 33) (t := 49) (dK D_Mo_lastReady 20 rfl) rfl ha1 (inRk rfl) (fun hc14 => ?_) (fun hc14 => ?_)
        · replace h := ifP h hc14
          refine g_iloadn (pc := 49) (i0 := 2) (j := 2) (dK D_Mo_lastReady 28 rfl) rfl rfl ?_
          refine g_istoren (pc := 50) (i0 := 1) (ls2 := [(1, V a2), (0, .ref c0), (2, V a2)]) (dK D_Mo_lastReady 29 rfl) rfl (ltK rfl) rfl ?_
          refine nmE h (fun v8 e_v8 h => ?_)
          refine vg_iinc (pc := 51) (j := 2) (a := a2) (z := 1) (ls2 := [(2, V v8), (1, V a2), (0, .ref c0)]) (dK D_Mo_lastReady 30 rfl) rfl e_v8 (ltK rfl) rfl ?_
          refine g_goto (pc := 54) (tgt := 9) (dK D_Mo_lastReady 31 rfl) rfl ?_
          refine gL_weak (ls' := [(0, .ref c0), (1, V a2), (2, V v8)]) (sbc 2 rfl (sbc 1 rfl (sbc 0 rfl sbn))) ?_
          replace h := ih _ h
          exact h ha2 (Vn_in e_v8)
        · replace h := ifN h hc14
          refine g_aloadn (pc := 36) (i0 := 0) (j := 0) (dK D_Mo_lastReady 21 rfl) rfl rfl ?_
          refine g_iloadn (pc := 37) (i0 := 2) (j := 2) (dK D_Mo_lastReady 22 rfl) rfl rfl ?_
          refine bnE h (fun p9 e_p9 h => ?_)
          refine vg_cV (pc := 38) (As := [V a2]) (rest := []) (mc' := 0) (ms' := 0) (dK D_Mo_lastReady 23 rfl) K_Mo_281 (fitK rfl) (ltK rfl) hc0 rfl (leK rfl) (leK rfl) (leK rfl) (tf_Mo_readyOf hc0 ha2 e_p9) (kcI (fun h_p9 => ?_))
          refine g_aloadn (pc := 41) (i0 := 0) (j := 0) (dK D_Mo_lastReady 24 rfl) rfl rfl ?_
          refine g_iloadn (pc := 42) (i0 := 1) (j := 1) (dK D_Mo_lastReady 25 rfl) rfl rfl ?_
          refine bnE h (fun p10 e_p10 h => ?_)
          refine vg_cV (pc := 43) (As := [V a1]) (rest := [V p9]) (mc' := 0) (ms' := 0) (dK D_Mo_lastReady 26 rfl) K_Mo_281 (fitK rfl) (ltK rfl) hc0 rfl (leK rfl) (leK rfl) (leK rfl) (tf_Mo_readyOf hc0 ha1 e_p10) (kcI (fun h_p10 => ?_))
          refine vg_icmp_le (pc := 46) (t := 51) (dK D_Mo_lastReady 27 rfl) rfl h_p9 h_p10 (fun hc13 => ?_) (fun hc13 => ?_)
          · replace h := ifP h hc13
            refine nmE h (fun v11 e_v11 h => ?_)
            refine vg_iinc (pc := 51) (j := 2) (a := a2) (z := 1) (ls2 := [(2, V v11), (0, .ref c0), (1, V a1)]) (dK D_Mo_lastReady 30 rfl) rfl e_v11 (ltK rfl) rfl ?_
            refine g_goto (pc := 54) (tgt := 9) (dK D_Mo_lastReady 31 rfl) rfl ?_
            refine gL_weak (ls' := [(0, .ref c0), (1, V a1), (2, V v11)]) (sbc 1 rfl (sbc 2 rfl (sbc 0 rfl sbn))) ?_
            replace h := ih _ h
            exact h ha1 (Vn_in e_v11)
          · replace h := ifN h hc13
            refine g_iloadn (pc := 49) (i0 := 2) (j := 2) (dK D_Mo_lastReady 28 rfl) rfl rfl ?_
            refine g_istoren (pc := 50) (i0 := 1) (ls2 := [(1, V a2), (0, .ref c0), (2, V a2)]) (dK D_Mo_lastReady 29 rfl) rfl (ltK rfl) rfl ?_
            refine nmE h (fun v12 e_v12 h => ?_)
            refine vg_iinc (pc := 51) (j := 2) (a := a2) (z := 1) (ls2 := [(2, V v12), (1, V a2), (0, .ref c0)]) (dK D_Mo_lastReady 30 rfl) rfl e_v12 (ltK rfl) rfl ?_
            refine g_goto (pc := 54) (tgt := 9) (dK D_Mo_lastReady 31 rfl) rfl ?_
            refine gL_weak (ls' := [(0, .ref c0), (1, V a2), (2, V v12)]) (sbc 2 rfl (sbc 1 rfl (sbc 0 rfl sbn))) ?_
            replace h := ih _ h
            exact h ha2 (Vn_in e_v12)
      · replace h := ifN h hc6
        refine nmE h (fun v7 e_v7 h => ?_)
        refine vg_iinc (pc := 51) (j := 2) (a := a2) (z := 1) (ls2 := [(2, V v7), (0, .ref c0), (1, V a1)]) (dK D_Mo_lastReady 30 rfl) rfl e_v7 (ltK rfl) rfl ?_
        refine g_goto (pc := 54) (tgt := 9) (dK D_Mo_lastReady 31 rfl) rfl ?_
        refine gL_weak (ls' := [(0, .ref c0), (1, V a1), (2, V v7)]) (sbc 1 rfl (sbc 2 rfl (sbc 0 rfl sbn))) ?_
        replace h := ih _ h
        exact h ha1 (Vn_in e_v7)
    · replace h := ifN h hc3
      refine nmE h (fun v4 e_v4 h => ?_)
      refine vg_iinc (pc := 51) (j := 2) (a := a2) (z := 1) (ls2 := [(2, V v4), (0, .ref c0), (1, V a1)]) (dK D_Mo_lastReady 30 rfl) rfl e_v4 (ltK rfl) rfl ?_
      refine g_goto (pc := 54) (tgt := 9) (dK D_Mo_lastReady 31 rfl) rfl ?_
      refine gL_weak (ls' := [(0, .ref c0), (1, V a1), (2, V v4)]) (sbc 1 rfl (sbc 2 rfl (sbc 0 rfl sbn))) ?_
      replace h := ih _ h
      exact h ha1 (Vn_in e_v4)
def fn_Mo_lastReady (c0 : Nat) (S : St) : Option (Int × St) := nm (u S c0 4 0) fun S1 => bnO (lo_Mo_lastReady_9 c0 S1 FU ((-1), 0)) fun p16 => some (p16, S1)
theorem tf_Mo_lastReady {E : EV} {X : XT} {c0 : Nat} (hc0 : HC X 11 c0) {S : St} {q : Int × St} (h : fn_Mo_lastReady c0 S = some q) : Ev E M_Mo_lastReady [.ref c0] (WX X S) 0 0 (KI X q.1 q.2) := by
  refine Ev.of pn_Mo rfl (leK rfl) ?_
  show Go E M_Mo_lastReady 0 0 0 [(0, .ref c0)] [] (WX X S) 0 0 (KI X q.1 q.2)
  unfold fn_Mo_lastReady at h
  refine g_aloadn (pc := 0) (i0 := 0) (j := 0) (dK D_Mo_lastReady 0 rfl) rfl rfl ?_
  refine vg_iconst (pc := 1) (dK D_Mo_lastReady 1 rfl) ?_
  refine nmE h (fun S1 e_S1 h => ?_)
  refine vg_putI (pc := 2) (ci := 11) (f := 4) (z := 0) (dK D_Mo_lastReady 2 rfl) q_1446 hc0 (ltK rfl) (ltK rfl) rfl rfl e_S1 ?_
  refine vg_iconst (pc := 5) (dK D_Mo_lastReady 3 rfl) ?_
  refine g_istoren (pc := 6) (i0 := 1) (ls2 := [(1, V (-1)), (0, .ref c0)]) (dK D_Mo_lastReady 4 rfl) rfl (ltK rfl) rfl ?_
  refine vg_iconst (pc := 7) (dK D_Mo_lastReady 5 rfl) ?_
  refine g_istoren (pc := 8) (i0 := 2) (ls2 := [(2, V 0), (1, V (-1)), (0, .ref c0)]) (dK D_Mo_lastReady 6 rfl) rfl (ltK rfl) rfl ?_
  refine bnE h (fun p16 e_p16 h => ?_)
  refine gL_weak (ls' := [(0, .ref c0), (1, V (-1)), (2, V 0)]) (sbc 2 rfl (sbc 1 rfl (sbc 0 rfl sbn))) ?_
  refine tl_Mo_lastReady_9 hc0 (fun hx1_p16 => ?_) FU ((-1), 0) e_p16 (inRk rfl) (inRk rfl)
  refine g_iloadn (pc := 57) (i0 := 1) (j := 0) (dK D_Mo_lastReady 32 rfl) rfl rfl ?_
  exact vg_iretI (pc := 58) (r := p16) (dK D_Mo_lastReady 33 rfl) rfl (leK rfl) (leK rfl) (fun _ => rfl) (by obtain rfl := Option.some.inj h; exact ⟨rfl, hx1_p16, rfl⟩)
def lb_Mo_coloredForms_4 (c0 : Nat) (S : St) (go : Int × Int → Option (Int)) (a1 : Int) (a2 : Int) : Option (Int) := bnO (fn_Mo_formMany c0 S) fun p1 => if p1 ≤ a2 then (some a1) else (bnO (fn_Mo_hasColored c0 a2 S) fun p2 => if p2 = true then (nm (wr (a1 + 1)) fun v6 => nm (wr (a2 + 1)) fun v7 => go (v6, v7)) else (nm (wr (a1 + 0)) fun v4 => nm (wr (a2 + 1)) fun v5 => go (v4, v5)))
def lo_Mo_coloredForms_4 (c0 : Nat) (S : St) : Nat → Int × Int → Option (Int) := lp fun go p => lb_Mo_coloredForms_4 c0 S go p.1 p.2
theorem tl_Mo_coloredForms_4 {E : EV} {X : XT} {c0 : Nat} (hc0 : HC X 11 c0) {S : St} {K : RK → PS → Prop} {q : Int} (hx : inR q → Go E M_Mo_coloredForms 0 0 34 [(1, V q)] [] (WX X S) 0 0 K) : ∀ n a, lo_Mo_coloredForms_4 c0 S n a = some q → inR a.1 → inR a.2 → Go E M_Mo_coloredForms 0 0 4 [(0, .ref c0), (1, V a.1), (2, V a.2)] [] (WX X S) 0 0 K := by
  refine lp_ind (P := fun a : Int × Int => inR a.1 → inR a.2 → Go E M_Mo_coloredForms 0 0 4 [(0, .ref c0), (1, V a.1), (2, V a.2)] [] (WX X S) 0 0 K) (fun go ih a h => ?_)
  obtain ⟨a1, a2⟩ := a
  intro ha1 ha2
  show Go E M_Mo_coloredForms 0 0 4 [(0, .ref c0), (1, V a1), (2, V a2)] [] (WX X S) 0 0 K
  replace h : lb_Mo_coloredForms_4 c0 S go a1 a2 = some q := h
  unfold lb_Mo_coloredForms_4 at h
  refine g_iloadn (pc := 4) (i0 := 2) (j := 2) (dK D_Mo_coloredForms 4 rfl) rfl rfl ?_
  refine g_aloadn (pc := 5) (i0 := 0) (j := 0) (dK D_Mo_coloredForms 5 rfl) rfl rfl ?_
  refine bnE h (fun p1 e_p1 h => ?_)
  refine vg_cV (pc := 6) (As := []) (rest := [V a2]) (mc' := 0) (ms' := 0) (dK D_Mo_coloredForms 6 rfl) K_Mo_71 (fitK rfl) (ltK rfl) hc0 rfl (leK rfl) (leK rfl) (leK rfl) (tf_Mo_formMany hc0 e_p1) (kcI (fun h_p1 => ?_))
  refine vg_icmp_ge (pc := 9) (t := 34) (dK D_Mo_coloredForms 7 rfl) rfl ha2 h_p1 (fun hc8 => ?_) (fun hc8 => ?_)
  · replace h := ifP h hc8
    obtain rfl := Option.some.inj h
    refine gL_weak (ls' := [(1, V a1)]) (sbc 1 rfl sbn) ?_
    exact hx ha1
  · replace h := ifN h hc8
    refine g_iloadn (pc := 12) (i0 := 1) (j := 1) (dK D_Mo_coloredForms 8 rfl) rfl rfl ?_
    refine g_aloadn (pc := 13) (i0 := 0) (j := 0) (dK D_Mo_coloredForms 9 rfl) rfl rfl ?_
    refine g_iloadn (pc := 14) (i0 := 2) (j := 2) (dK D_Mo_coloredForms 10 rfl) rfl rfl ?_
    refine bnE h (fun p2 e_p2 h => ?_)
    refine vg_cV (pc := 15) (As := [V a2]) (rest := [V a1]) (mc' := 0) (ms' := 0) (dK D_Mo_coloredForms 11 rfl) K_Mo_211 (fitK rfl) (ltK rfl) hc0 rfl (leK rfl) (leK rfl) (leK rfl) (tf_Mo_hasColored hc0 ha2 e_p2) (kcB ?_)
    refine vg_ifB_eq (pc := 18) (b := p2) (t := 25) (dK D_Mo_coloredForms 12 rfl) rfl (fun hc3 => ?_) (fun hc3 => ?_)
    · replace h := ifP h hc3
      refine vg_iconst (pc := 21) (dK D_Mo_coloredForms 13 rfl) ?_
      refine g_goto (pc := 22) (tgt := 26) (dK D_Mo_coloredForms 14 rfl) rfl ?_
      refine vg_iadd (pc := 26) (dK D_Mo_coloredForms 16 rfl) ?_
      refine nmE h (fun v6 e_v6 h => ?_)
      refine gtop e_v6 ?_
      refine g_istoren (pc := 27) (i0 := 1) (ls2 := [(1, V v6), (0, .ref c0), (2, V a2)]) (dK D_Mo_coloredForms 17 rfl) rfl (ltK rfl) rfl ?_
      refine nmE h (fun v7 e_v7 h => ?_)
      refine vg_iinc (pc := 28) (j := 2) (a := a2) (z := 1) (ls2 := [(2, V v7), (1, V v6), (0, .ref c0)]) (dK D_Mo_coloredForms 18 rfl) rfl e_v7 (ltK rfl) rfl ?_
      refine g_goto (pc := 31) (tgt := 4) (dK D_Mo_coloredForms 19 rfl) rfl ?_
      refine gL_weak (ls' := [(0, .ref c0), (1, V v6), (2, V v7)]) (sbc 2 rfl (sbc 1 rfl (sbc 0 rfl sbn))) ?_
      replace h := ih _ h
      exact h (Vn_in e_v6) (Vn_in e_v7)
    · replace h := ifN h hc3
      refine vg_iconst (pc := 25) (dK D_Mo_coloredForms 15 rfl) ?_
      refine vg_iadd (pc := 26) (dK D_Mo_coloredForms 16 rfl) ?_
      refine nmE h (fun v4 e_v4 h => ?_)
      refine gtop e_v4 ?_
      refine g_istoren (pc := 27) (i0 := 1) (ls2 := [(1, V v4), (0, .ref c0), (2, V a2)]) (dK D_Mo_coloredForms 17 rfl) rfl (ltK rfl) rfl ?_
      refine nmE h (fun v5 e_v5 h => ?_)
      refine vg_iinc (pc := 28) (j := 2) (a := a2) (z := 1) (ls2 := [(2, V v5), (1, V v4), (0, .ref c0)]) (dK D_Mo_coloredForms 18 rfl) rfl e_v5 (ltK rfl) rfl ?_
      refine g_goto (pc := 31) (tgt := 4) (dK D_Mo_coloredForms 19 rfl) rfl ?_
      refine gL_weak (ls' := [(0, .ref c0), (1, V v4), (2, V v5)]) (sbc 2 rfl (sbc 1 rfl (sbc 0 rfl sbn))) ?_
      replace h := ih _ h
      exact h (Vn_in e_v4) (Vn_in e_v5)
def fn_Mo_coloredForms (c0 : Nat) (S : St) : Option (Int) := bnO (lo_Mo_coloredForms_4 c0 S FU (0, 0)) fun p9 => some p9
theorem tf_Mo_coloredForms {E : EV} {X : XT} {c0 : Nat} (hc0 : HC X 11 c0) {S : St} {q : Int} (h : fn_Mo_coloredForms c0 S = some q) : Ev E M_Mo_coloredForms [.ref c0] (WX X S) 0 0 (KI X q S) := by
  refine Ev.of pn_Mo rfl (leK rfl) ?_
  show Go E M_Mo_coloredForms 0 0 0 [(0, .ref c0)] [] (WX X S) 0 0 (KI X q S)
  unfold fn_Mo_coloredForms at h
  refine vg_iconst (pc := 0) (dK D_Mo_coloredForms 0 rfl) ?_
  refine g_istoren (pc := 1) (i0 := 1) (ls2 := [(1, V 0), (0, .ref c0)]) (dK D_Mo_coloredForms 1 rfl) rfl (ltK rfl) rfl ?_
  refine vg_iconst (pc := 2) (dK D_Mo_coloredForms 2 rfl) ?_
  refine g_istoren (pc := 3) (i0 := 2) (ls2 := [(2, V 0), (1, V 0), (0, .ref c0)]) (dK D_Mo_coloredForms 3 rfl) rfl (ltK rfl) rfl ?_
  refine bnE h (fun p9 e_p9 h => ?_)
  refine gL_weak (ls' := [(0, .ref c0), (1, V 0), (2, V 0)]) (sbc 2 rfl (sbc 1 rfl (sbc 0 rfl sbn))) ?_
  refine tl_Mo_coloredForms_4 hc0 (fun hx1_p9 => ?_) FU (0, 0) e_p9 (inRk rfl) (inRk rfl)
  refine g_iloadn (pc := 34) (i0 := 1) (j := 0) (dK D_Mo_coloredForms 20 rfl) rfl rfl ?_
  exact vg_iretI (pc := 35) (r := p9) (dK D_Mo_coloredForms 21 rfl) rfl (leK rfl) (leK rfl) (fun _ => rfl) (by obtain rfl := Option.some.inj h; exact ⟨rfl, hx1_p9, rfl⟩)
