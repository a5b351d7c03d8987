def lb_Mo_betterExchange_27 (c0 : Nat) (a3 : Int) (go : Int × Int × Int × St → Option (Int × Int × St)) (a1 : Int) (a2 : Int) (a4 : Int) (S : St) : Option (Int × Int × St) := bnO (fn_Mo_pageMany c0 S) fun p5 => if p5 < a4 then (some (a1, a2, S)) else (bnO (fn_Mo_adsOn c0 a3 S) fun p6 => bnO (fn_Mo_adsOn c0 a4 S) fun p7 => nm (wr (p6 + p7)) fun v8 => if v8 = 0 then (nm (wr (a4 + 1)) fun v9 => go (a1, a2, v9, S)) else (bnO (fn_Mo_exchangeReason c0 a3 a4 S) fun p10 => if p10.1 ≤ 0 then (bnO (fn_Mo_swapPages c0 a3 a4 p10.2) fun p11 => bnO (fn_Mo_coloredForms c0 p11) fun p12 => bnO (fn_Mo_swapPages c0 a3 a4 p11) fun p13 => if p12 < a2 then (nm (wr ((100 * a3) + a4)) fun v14 => nm (wr (a4 + 1)) fun v15 => go (v14, p12, v15, p13)) else (nm (wr (a4 + 1)) fun v16 => go (a1, a2, v16, p13))) else (nm (wr (a4 + 1)) fun v18 => go (a1, a2, v18, p10.2))))
def lo_Mo_betterExchange_27 (c0 : Nat) (a3 : Int) : Nat → Int × Int × Int × St → Option (Int × Int × St) := lp fun go p => lb_Mo_betterExchange_27 c0 a3 go p.1 p.2.1 p.2.2.1 p.2.2.2
set_option maxHeartbeats 20000000 in
theorem tl_Mo_betterExchange_27 {E : EV} {X : XT} {c0 : Nat} (hc0 : HC X 11 c0) {a3 : Int} (ha3 : inR a3) {K : RK → PS → Prop} {q : Int × Int × St} (hx : inR q.1 → inR q.2.1 → Go E M_Mo_betterExchange 0 0 110 [(0, .ref c0), (1, V q.1), (2, V q.2.1), (3, V a3)] [] (WX X q.2.2) 0 0 K) : ∀ n a, lo_Mo_betterExchange_27 c0 a3 n a = some q → inR a.1 → inR a.2.1 → inR a.2.2.1 → Go E M_Mo_betterExchange 0 0 27 [(0, .ref c0), (1, V a.1), (2, V a.2.1), (3, V a3), (4, V a.2.2.1)] [] (WX X a.2.2.2) 0 0 K := by
  refine lp_ind (P := fun a : Int × Int × Int × St => inR a.1 → inR a.2.1 → inR a.2.2.1 → Go E M_Mo_betterExchange 0 0 27 [(0, .ref c0), (1, V a.1), (2, V a.2.1), (3, V a3), (4, V a.2.2.1)] [] (WX X a.2.2.2) 0 0 K) (fun go ih a h => ?_)
  obtain ⟨a1, a2, a4, S⟩ := a
  intro ha1 ha2 ha4
  show Go E M_Mo_betterExchange 0 0 27 [(0, .ref c0), (1, V a1), (2, V a2), (3, V a3), (4, V a4)] [] (WX X S) 0 0 K
  replace h : lb_Mo_betterExchange_27 c0 a3 go a1 a2 a4 S = some q := h
  unfold lb_Mo_betterExchange_27 at h
  refine g_iload (pc := 27) (j := 4) (dK D_Mo_betterExchange_0 18 rfl) rfl ?_
  refine g_aloadn (pc := 29) (i0 := 0) (j := 0) (dK D_Mo_betterExchange_0 19 rfl) rfl rfl ?_
  refine bnE h (fun p5 e_p5 h => ?_)
  refine vg_cV (pc := 30) (As := []) (rest := [V a4]) (mc' := 0) (ms' := 0) (dK D_Mo_betterExchange_0 20 rfl) K_Mo_63 (fitK rfl) (ltK rfl) hc0 rfl (leK rfl) (leK rfl) (leK rfl) (tf_Mo_pageMany hc0 e_p5) (kcI (fun h_p5 => ?_))
  refine vg_icmp_gt (pc := 33) (t := 110) (dK D_Mo_betterExchange_0 21 rfl) rfl ha4 h_p5 (fun hc21 => ?_) (fun hc21 => ?_)
  · replace h := ifP h hc21
    obtain rfl := Option.some.inj h
    refine gL_weak (ls' := [(0, .ref c0), (1, V a1), (2, V a2), (3, V a3)]) (sbc 0 rfl (sbc 1 rfl (sbc 2 rfl (sbc 3 rfl sbn)))) ?_
    exact hx ha1 ha2
  · replace h := ifN h hc21
    refine g_aloadn (pc := 36) (i0 := 0) (j := 0) (dK D_Mo_betterExchange_0 22 rfl) rfl rfl ?_
    refine g_iloadn (pc := 37) (i0 := 3) (j := 3) (dK D_Mo_betterExchange_0 23 rfl) rfl rfl ?_
    refine bnE h (fun p6 e_p6 h => ?_)
    refine vg_cV (pc := 38) (As := [V a3]) (rest := []) (mc' := 0) (ms' := 0) (dK D_Mo_betterExchange_0 24 rfl) K_Mo_187 (fitK rfl) (ltK rfl) hc0 rfl (leK rfl) (leK rfl) (leK rfl) (tf_Mo_adsOn hc0 ha3 e_p6) (kcI (fun h_p6 => ?_))
    refine g_aloadn (pc := 41) (i0 := 0) (j := 0) (dK D_Mo_betterExchange_0 25 rfl) rfl rfl ?_
    refine g_iload (pc := 42) (j := 4) (dK D_Mo_betterExchange_0 26 rfl) rfl ?_
    refine bnE h (fun p7 e_p7 h => ?_)
    refine vg_cV (pc := 44) (As := [V a4]) (rest := [V p6]) (mc' := 0) (ms' := 0) (dK D_Mo_betterExchange_0 27 rfl) K_Mo_187 (fitK rfl) (ltK rfl) hc0 rfl (leK rfl) (leK rfl) (leK rfl) (tf_Mo_adsOn hc0 ha4 e_p7) (kcI (fun h_p7 => ?_))
    refine vg_iadd (pc := 47) (dK D_Mo_betterExchange_0 28 rfl) ?_
    refine nmE h (fun v8 e_v8 h => ?_)
    refine gtop e_v8 ?_
    refine vg_if_eq (pc := 48) (t := 104) (dK D_Mo_betterExchange_0 29 rfl) rfl (Vn_in e_v8) (fun hc20 => ?_) (fun hc20 => ?_)
    · replace h := ifP h hc20
      refine nmE h (fun v9 e_v9 h => ?_)
      refine vg_iinc (pc := 104) (j := 4) (a := a4) (z := 1) (ls2 := [(4, V v9), (0, .ref c0), (1, V a1), (2, V a2), (3, V a3)]) (dK D_Mo_betterExchange_1 9 rfl) rfl e_v9 (ltK rfl) rfl ?_
      refine g_goto (pc := 107) (tgt := 27) (dK D_Mo_betterExchange_1 10 rfl) rfl ?_
      refine gL_weak (ls' := [(0, .ref c0), (1, V a1), (2, V a2), (3, V a3), (4, V v9)]) (sbc 1 rfl (sbc 2 rfl (sbc 3 rfl (sbc 4 rfl (sbc 0 rfl sbn))))) ?_
      replace h := ih _ h
      exact h ha1 ha2 (Vn_in e_v9)
    · replace h := ifN h hc20
      refine g_aloadn (pc := 51) (i0 := 0) (j := 0) (dK D_Mo_betterExchange_0 30 rfl) rfl rfl ?_
      refine g_iloadn (pc := 52) (i0 := 3) (j := 3) (dK D_Mo_betterExchange_0 31 rfl) rfl rfl ?_
      refine g_iload (pc := 53) (j := 4) (dK D_Mo_betterExchange_0 32 rfl) rfl ?_
      refine bnE h (fun p10 e_p10 h => ?_)
      refine vg_cV (pc := 55) (As := [V a3, V a4]) (rest := []) (mc' := 0) (ms' := 0) (dK D_Mo_betterExchange_0 33 rfl) K_Mo_229 (fitK rfl) (ltK rfl) hc0 rfl (leK rfl) (leK rfl) (leK rfl) (tf_Mo_exchangeReason hc0 ha3 ha4 e_p10) (kcI (fun h_p10 => ?_))
      refine vg_if_le (pc := 58) (t := 64) (dK D_Mo_betterExchange_0 34 rfl) rfl h_p10 (fun hc19 => ?_) (fun hc19 => ?_)
      · replace h := ifP h hc19
        refine g_aloadn (pc := 64) (i0 := 0) (j := 0) (dK D_Mo_betterExchange_0 36 rfl) rfl rfl ?_
        refine g_iloadn (pc := 65) (i0 := 3) (j := 3) (dK D_Mo_betterExchange_0 37 rfl) rfl rfl ?_
        refine g_iload (pc := 66) (j := 4) (dK D_Mo_betterExchange_0 38 rfl) rfl ?_
        refine bnE h (fun p11 e_p11 h => ?_)
        refine vg_cV (pc := 68) (As := [V a3, V a4]) (rest := []) (mc' := 0) (ms' := 0) (dK D_Mo_betterExchange_0 39 rfl) K_Mo_223 (fitK rfl) (ltK rfl) hc0 rfl (leK rfl) (leK rfl) (leK rfl) (tf_Mo_swapPages hc0 ha3 ha4 e_p11) (kcU ?_)
        refine g_aloadn (pc := 71) (i0 := 0) (j := 0) (dK D_Mo_betterExchange_0 40 rfl) rfl rfl ?_
        refine bnE h (fun p12 e_p12 h => ?_)
        refine vg_cV (pc := 72) (As := []) (rest := []) (mc' := 0) (ms' := 0) (dK D_Mo_betterExchange_0 41 rfl) K_Mo_290 (fitK rfl) (ltK rfl) hc0 rfl (leK rfl) (leK rfl) (leK rfl) (tf_Mo_coloredForms hc0 e_p12) (kcI (fun h_p12 => ?_))
        refine g_istore (pc := 75) (ls2 := [(5, V p12), (0, .ref c0), (1, V a1), (2, V a2), (3, V a3), (4, V a4)]) (dK D_Mo_betterExchange_0 42 rfl) (ltK rfl) rfl ?_
        refine g_aloadn (pc := 77) (i0 := 0) (j := 1) (dK D_Mo_betterExchange_0 43 rfl) rfl rfl ?_
        refine g_iloadn (pc := 78) (i0 := 3) (j := 4) (dK D_Mo_betterExchange_0 44 rfl) rfl rfl ?_
        refine g_iload (pc := 79) (j := 5) (dK D_Mo_betterExchange_0 45 rfl) rfl ?_
        refine bnE h (fun p13 e_p13 h => ?_)
        refine vg_cV (pc := 81) (As := [V a3, V a4]) (rest := []) (mc' := 0) (ms' := 0) (dK D_Mo_betterExchange_0 46 rfl) K_Mo_223 (fitK rfl) (ltK rfl) hc0 rfl (leK rfl) (leK rfl) (leK rfl) (tf_Mo_swapPages hc0 ha3 ha4 e_p13) (kcU ?_)
        refine g_iload (pc := 84) (j := 0) (dK D_Mo_betterExchange_0 47 rfl) rfl ?_
        refine g_iloadn (pc := 86) (i0 := 2) (j := 3) (dK D_Mo_betterExchange_0 48 rfl) rfl rfl ?_
        refine vg_icmp_lt (pc := 87) (t := 93) (dK D_Mo_betterExchange_0 49 rfl) rfl h_p12 ha2 (fun hc17 => ?_) (fun hc17 => ?_)
        · replace h := ifP h hc17
          refine vg_bipush (pc := 93) (dK D_Mo_betterExchange_1 1 rfl) rfl ?_
          refine g_iloadn (pc := 95) (i0 := 3) (j := 4) (dK D_Mo_betterExchange_1 2 rfl) rfl rfl ?_
          refine vg_imul (pc := 96) (dK D_Mo_betterExchange_1 3 rfl) ?_
          refine g_iload (pc := 97) (j := 5) (dK D_Mo_betterExchange_1 4 rfl) rfl ?_
          refine vg_iadd (pc := 99) (dK D_Mo_betterExchange_1 5 rfl) ?_
          refine nmE h (fun v14 e_v14 h => ?_)
          refine gtop e_v14 ?_
          refine g_istoren (pc := 100) (i0 := 1) (ls2 := [(1, V v14), (5, V p12), (0, .ref c0), (2, V a2), (3, V a3), (4, V a4)]) (dK D_Mo_betterExchange_1 6 rfl) rfl (ltK rfl) rfl ?_
          refine g_iload (pc := 101) (j := 1) (dK D_Mo_betterExchange_1 7 rfl) rfl ?_
          refine g_istoren (pc := 103) (i0 := 2) (ls2 := [(2, V p12), (1, V v14), (5, V p12), (0, .ref c0), (3, V a3), (4, V a4)]) (dK D_Mo_betterExchange_1 8 rfl) rfl (ltK rfl) rfl ?_
          refine nmE h (fun v15 e_v15 h => ?_)
          refine vg_iinc (pc := 104) (j := 5) (a := a4) (z := 1) (ls2 := [(4, V v15), (2, V p12), (1, V v14), (5, V p12), (0, .ref c0), (3, V a3)]) (dK D_Mo_betterExchange_1 9 rfl) rfl e_v15 (ltK rfl) rfl ?_
          refine g_goto (pc := 107) (tgt := 27) (dK D_Mo_betterExchange_1 10 rfl) rfl ?_
          refine gL_weak (ls' := [(0, .ref c0), (1, V v14), (2, V p12), (3, V a3), (4, V v15)]) (sbc 4 rfl (sbc 2 rfl (sbc 1 rfl (sbc 5 rfl (sbc 0 rfl sbn))))) ?_
          replace h := ih _ h
          exact h (Vn_in e_v14) h_p12 (Vn_in e_v15)
        · replace h := ifN h hc17
          refine g_goto (pc := 90) (tgt := 104) (dK D_Mo_betterExchange_1 0 rfl) rfl ?_
          refine nmE h (fun v16 e_v16 h => ?_)
          refine vg_iinc (pc := 104) (j := 5) (a := a4) (z := 1) (ls2 := [(4, V v16), (5, V p12), (0, .ref c0), (1, V a1), (2, V a2), (3, V a3)]) (dK D_Mo_betterExchange_1 9 rfl) rfl e_v16 (ltK rfl) rfl ?_
          refine g_goto (pc := 107) (tgt := 27) (dK D_Mo_betterExchange_1 10 rfl) rfl ?_
          refine gL_weak (ls' := [(0, .ref c0), (1, V a1), (2, V a2), (3, V a3), (4, V v16)]) (sbc 2 rfl (sbc 3 rfl (sbc 4 rfl (sbc 5 rfl (sbc 0 rfl sbn))))) ?_
          replace h := ih _ h
          exact h ha1 ha2 (Vn_in e_v16)
      · replace h := ifN h hc19
        refine g_goto (pc := 61) (tgt := 104) (dK D_Mo_betterExchange_0 35 rfl) rfl ?_
        refine nmE h (fun v18 e_v18 h => ?_)
        refine vg_iinc (pc := 104) (j := 4) (a := a4) (z := 1) (ls2 := [(4, V v18), (0, .ref c0), (1, V a1), (2, V a2), (3, V a3)]) (dK D_Mo_betterExchange_1 9 rfl) rfl e_v18 (ltK rfl) rfl ?_
        refine g_goto (pc := 107) (tgt := 27) (dK D_Mo_betterExchange_1 10 rfl) rfl ?_
        refine gL_weak (ls' := [(0, .ref c0), (1, V a1), (2, V a2), (3, V a3), (4, V v18)]) (sbc 1 rfl (sbc 2 rfl (sbc 3 rfl (sbc 4 rfl (sbc 0 rfl sbn))))) ?_
        replace h := ih _ h
        exact h ha1 ha2 (Vn_in e_v18)
def lb_Mo_betterExchange_14 (c0 : Nat) (go : Int × Int × Int × St → Option (Int × St)) (a1 : Int) (a2 : Int) (a3 : Int) (S : St) : Option (Int × St) := bnO (fn_Mo_pageMany c0 S) fun p3 => if p3 < a3 then (some (a1, S)) else (nm (wr (a3 + 1)) fun v4 => bnO (lo_Mo_betterExchange_27 c0 a3 FU (a1, a2, v4, S)) fun p22 => nm (wr (a3 + 1)) fun v23 => go (p22.1, p22.2.1, v23, p22.2.2))
def lo_Mo_betterExchange_14 (c0 : Nat) : Nat → Int × Int × Int × St → Option (Int × St) := lp fun go p => lb_Mo_betterExchange_14 c0 go p.1 p.2.1 p.2.2.1 p.2.2.2
theorem tl_Mo_betterExchange_14 {E : EV} {X : XT} {c0 : Nat} (hc0 : HC X 11 c0) {K : RK → PS → Prop} {q : Int × St} (hx : inR q.1 → Go E M_Mo_betterExchange 0 0 116 [(1, V q.1)] [] (WX X q.2) 0 0 K) : ∀ n a, lo_Mo_betterExchange_14 c0 n a = some q → inR a.1 → inR a.2.1 → inR a.2.2.1 → Go E M_Mo_betterExchange 0 0 14 [(0, .ref c0), (1, V a.1), (2, V a.2.1), (3, V a.2.2.1)] [] (WX X a.2.2.2) 0 0 K := by
  refine lp_ind (P := fun a : Int × Int × Int × St => inR a.1 → inR a.2.1 → inR a.2.2.1 → Go E M_Mo_betterExchange 0 0 14 [(0, .ref c0), (1, V a.1), (2, V a.2.1), (3, V a.2.2.1)] [] (WX X a.2.2.2) 0 0 K) (fun go ih a h => ?_)
  obtain ⟨a1, a2, a3, S⟩ := a
  intro ha1 ha2 ha3
  show Go E M_Mo_betterExchange 0 0 14 [(0, .ref c0), (1, V a1), (2, V a2), (3, V a3)] [] (WX X S) 0 0 K
  replace h : lb_Mo_betterExchange_14 c0 go a1 a2 a3 S = some q := h
  unfold lb_Mo_betterExchange_14 at h
  refine g_iloadn (pc := 14) (i0 := 3) (j := 3) (dK D_Mo_betterExchange_0 10 rfl) rfl rfl ?_
  refine g_aloadn (pc := 15) (i0 := 0) (j := 0) (dK D_Mo_betterExchange_0 11 rfl) rfl rfl ?_
  refine bnE h (fun p3 e_p3 h => ?_)
  refine vg_cV (pc := 16) (As := []) (rest := [V a3]) (mc' := 0) (ms' := 0) (dK D_Mo_betterExchange_0 12 rfl) K_Mo_63 (fitK rfl) (ltK rfl) hc0 rfl (leK rfl) (leK rfl) (leK rfl) (tf_Mo_pageMany hc0 e_p3) (kcI (fun h_p3 => ?_))
  refine vg_icmp_gt (pc := 19) (t := 116) (dK D_Mo_betterExchange_0 13 rfl) rfl ha3 h_p3 (fun hc24 => ?_) (fun hc24 => ?_)
  · replace h := ifP h hc24
    obtain rfl := Option.some.inj h
    refine gL_weak (ls' := [(1, V a1)]) (sbc 1 rfl sbn) ?_
    exact hx ha1
  · replace h := ifN h hc24
    refine g_iloadn (pc := 22) (i0 := 3) (j := 3) (dK D_Mo_betterExchange_0 14 rfl) rfl rfl ?_
    refine vg_iconst (pc := 23) (dK D_Mo_betterExchange_0 15 rfl) ?_
    refine vg_iadd (pc := 24) (dK D_Mo_betterExchange_0 16 rfl) ?_
    refine nmE h (fun v4 e_v4 h => ?_)
    refine gtop e_v4 ?_
    refine g_istore (pc := 25) (ls2 := [(4, V v4), (0, .ref c0), (1, V a1), (2, V a2), (3, V a3)]) (dK D_Mo_betterExchange_0 17 rfl) (ltK rfl) rfl ?_
    refine bnE h (fun p22 e_p22 h => ?_)
    refine gL_weak (ls' := [(0, .ref c0), (1, V a1), (2, V a2), (3, V a3), (4, V v4)]) (sbc 1 rfl (sbc 2 rfl (sbc 3 rfl (sbc 4 rfl (sbc 0 rfl sbn))))) ?_
    refine tl_Mo_betterExchange_27 hc0 ha3 (fun hx1_p22 hx2_p22 => ?_) FU (a1, a2, v4, S) e_p22 ha1 ha2 (Vn_in e_v4)
    refine nmE h (fun v23 e_v23 h => ?_)
    refine vg_iinc (pc := 110) (j := 3) (a := a3) (z := 1) (ls2 := [(3, V v23), (0, .ref c0), (1, V p22.1), (2, V p22.2.1)]) (dK D_Mo_betterExchange_1 11 rfl) rfl e_v23 (ltK rfl) rfl ?_
    refine g_goto (pc := 113) (tgt := 14) (dK D_Mo_betterExchange_1 12 rfl) rfl ?_
    refine gL_weak (ls' := [(0, .ref c0), (1, V p22.1), (2, V p22.2.1), (3, V v23)]) (sbc 1 rfl (sbc 2 rfl (sbc 3 rfl (sbc 0 rfl sbn)))) ?_
    replace h := ih _ h
    exact h hx1_p22 hx2_p22 (Vn_in e_v23)
def fn_Mo_betterExchange (c0 : Nat) (S : St) : Option (Int × St) := nm (u S c0 4 0) fun S1 => bnO (fn_Mo_coloredForms c0 S1) fun p2 => bnO (lo_Mo_betterExchange_14 c0 FU ((-1), p2, 1, S1)) fun p25 => some (p25.1, p25.2)
theorem tf_Mo_betterExchange {E : EV} {X : XT} {c0 : Nat} (hc0 : HC X 11 c0) {S : St} {q : Int × St} (h : fn_Mo_betterExchange c0 S = some q) : Ev E M_Mo_betterExchange [.ref c0] (WX X S) 0 0 (KI X q.1 q.2) := by
  refine Ev.of pn_Mo rfl (leK rfl) ?_
  show Go E M_Mo_betterExchange 0 0 0 [(0, .ref c0)] [] (WX X S) 0 0 (KI X q.1 q.2)
  unfold fn_Mo_betterExchange at h
  refine g_aloadn (pc := 0) (i0 := 0) (j := 0) (dK D_Mo_betterExchange_0 0 rfl) rfl rfl ?_
  refine vg_iconst (pc := 1) (dK D_Mo_betterExchange_0 1 rfl) ?_
  refine nmE h (fun S1 e_S1 h => ?_)
  refine vg_putI (pc := 2) (ci := 11) (f := 4) (z := 0) (dK D_Mo_betterExchange_0 2 rfl) q_1446 hc0 (ltK rfl) (ltK rfl) rfl rfl e_S1 ?_
  refine vg_iconst (pc := 5) (dK D_Mo_betterExchange_0 3 rfl) ?_
  refine g_istoren (pc := 6) (i0 := 1) (ls2 := [(1, V (-1)), (0, .ref c0)]) (dK D_Mo_betterExchange_0 4 rfl) rfl (ltK rfl) rfl ?_
  refine g_aloadn (pc := 7) (i0 := 0) (j := 1) (dK D_Mo_betterExchange_0 5 rfl) rfl rfl ?_
  refine bnE h (fun p2 e_p2 h => ?_)
  refine vg_cV (pc := 8) (As := []) (rest := []) (mc' := 0) (ms' := 0) (dK D_Mo_betterExchange_0 6 rfl) K_Mo_290 (fitK rfl) (ltK rfl) hc0 rfl (leK rfl) (leK rfl) (leK rfl) (tf_Mo_coloredForms hc0 e_p2) (kcI (fun h_p2 => ?_))
  refine g_istoren (pc := 11) (i0 := 2) (ls2 := [(2, V p2), (1, V (-1)), (0, .ref c0)]) (dK D_Mo_betterExchange_0 7 rfl) rfl (ltK rfl) rfl ?_
  refine vg_iconst (pc := 12) (dK D_Mo_betterExchange_0 8 rfl) ?_
  refine g_istoren (pc := 13) (i0 := 3) (ls2 := [(3, V 1), (2, V p2), (1, V (-1)), (0, .ref c0)]) (dK D_Mo_betterExchange_0 9 rfl) rfl (ltK rfl) rfl ?_
  refine bnE h (fun p25 e_p25 h => ?_)
  refine gL_weak (ls' := [(0, .ref c0), (1, V (-1)), (2, V p2), (3, V 1)]) (sbc 3 rfl (sbc 2 rfl (sbc 1 rfl (sbc 0 rfl sbn)))) ?_
  refine tl_Mo_betterExchange_14 hc0 (fun hx1_p25 => ?_) FU ((-1), p2, 1, S1) e_p25 (inRk rfl) h_p2 (inRk rfl)
  refine g_iloadn (pc := 116) (i0 := 1) (j := 0) (dK D_Mo_betterExchange_1 13 rfl) rfl rfl ?_
  exact vg_iretI (pc := 117) (r := p25.1) (dK D_Mo_betterExchange_1 14 rfl) rfl (leK rfl) (leK rfl) (fun _ => rfl) (by obtain rfl := Option.some.inj h; exact ⟨rfl, hx1_p25, rfl⟩)
def lb_Mo_emptyRun_36 (c0 : Nat) (a1 : Int) (S : St) (go : Int × Int → Option ((Int) ⊕ (Unit))) (a2 : Int) (a3 : Int) : Option ((Int) ⊕ (Unit)) := bnO (fn_Mo_pageMany c0 S) fun p6 => if p6 < a3 then (some (.inr ())) else (bnO (fn_Mo_left c0 a3 S) fun p7 => if p7 = 4 then (nm (wr (a2 + 1)) fun v10 => if v10 = a1 then (some (.inl (wr ((a3 - a1) + 1)))) else (nm (wr (a3 + 1)) fun v11 => go (v10, v11))) else (if 0 = a1 then (some (.inl (wr ((a3 - a1) + 1)))) else (nm (wr (a3 + 1)) fun v8 => go (0, v8))))
def lo_Mo_emptyRun_36 (c0 : Nat) (a1 : Int) (S : St) : Nat → Int × Int → Option ((Int) ⊕ (Unit)) := lp fun go p => lb_Mo_emptyRun_36 c0 a1 S go p.1 p.2
theorem tl_Mo_emptyRun_36 {E : EV} {X : XT} {c0 : Nat} (hc0 : HC X 11 c0) {a1 : Int} (ha1 : inR a1) {S : St} {K : RK → PS → Prop} {q : (Int) ⊕ (Unit)} (hx : ∀ p, q = .inr p → Go E M_Mo_emptyRun 0 0 78 [] [] (WX X S) 0 0 K) (hr : ∀ p, q = .inl p → inR p → K (.inl (some (V p))) (WX X S)) : ∀ n a, lo_Mo_emptyRun_36 c0 a1 S n a = some q → inR a.1 → inR a.2 → Go E M_Mo_emptyRun 0 0 36 [(0, .ref c0), (1, V a1), (2, V a.1), (3, V a.2)] [] (WX X S) 0 0 K := by
  refine lp_ind (P := fun a : Int × Int => inR a.1 → inR a.2 → Go E M_Mo_emptyRun 0 0 36 [(0, .ref c0), (1, V a1), (2, V a.1), (3, V a.2)] [] (WX X S) 0 0 K) (fun go ih a h => ?_)
  obtain ⟨a2, a3⟩ := a
  intro ha2 ha3
  show Go E M_Mo_emptyRun 0 0 36 [(0, .ref c0), (1, V a1), (2, V a2), (3, V a3)] [] (WX X S) 0 0 K
  replace h : lb_Mo_emptyRun_36 c0 a1 S go a2 a3 = some q := h
  unfold lb_Mo_emptyRun_36 at h
  refine g_iloadn (pc := 36) (i0 := 3) (j := 3) (dK D_Mo_emptyRun 22 rfl) rfl rfl ?_
  refine g_aloadn (pc := 37) (i0 := 0) (j := 0) (dK D_Mo_emptyRun 23 rfl) rfl rfl ?_
  refine bnE h (fun p6 e_p6 h => ?_)
  refine vg_cV (pc := 38) (As := []) (rest := [V a3]) (mc' := 0) (ms' := 0) (dK D_Mo_emptyRun 24 rfl) K_Mo_63 (fitK rfl) (ltK rfl) hc0 rfl (leK rfl) (leK rfl) (leK rfl) (tf_Mo_pageMany hc0 e_p6) (kcI (fun h_p6 => ?_))
  refine vg_icmp_gt (pc := 41) (t := 78) (dK D_Mo_emptyRun 25 rfl) rfl ha3 h_p6 (fun hc14 => ?_) (fun hc14 => ?_)
  · replace h := ifP h hc14
    refine gL_weak (ls' := []) sbn ?_
    exact hx _ (Option.some.inj h).symm 
  · replace h := ifN h hc14
    refine g_aloadn (pc := 44) (i0 := 0) (j := 0) (dK D_Mo_emptyRun 26 rfl) rfl rfl ?_
    refine g_iloadn (pc := 45) (i0 := 3) (j := 3) (dK D_Mo_emptyRun 27 rfl) rfl rfl ?_
    refine bnE h (fun p7 e_p7 h => ?_)
    refine vg_cV (pc := 46) (As := [V a3]) (rest := []) (mc' := 0) (ms' := 0) (dK D_Mo_emptyRun 28 rfl) K_Mo_184 (fitK rfl) (ltK rfl) hc0 rfl (leK rfl) (leK rfl) (leK rfl) (tf_Mo_left hc0 ha3 e_p7) (kcI (fun h_p7 => ?_))
    refine vg_iconst (pc := 49) (dK D_Mo_emptyRun 29 rfl) ?_
    refine vg_icmp_ne (pc := 50) (t := 59) (dK D_Mo_emptyRun 30 rfl) rfl h_p7 (inRk rfl) (fun hc13 => ?_) (fun hc13 => ?_)
    · replace h := ifN h hc13
      refine vg_iconst (pc := 59) (dK D_Mo_emptyRun 35 rfl) ?_
      refine g_istoren (pc := 60) (i0 := 2) (ls2 := [(2, V 0), (0, .ref c0), (1, V a1), (3, V a3)]) (dK D_Mo_emptyRun 36 rfl) rfl (ltK rfl) rfl ?_
      refine g_iloadn (pc := 61) (i0 := 2) (j := 0) (dK D_Mo_emptyRun 37 rfl) rfl rfl ?_
      refine g_iloadn (pc := 62) (i0 := 1) (j := 2) (dK D_Mo_emptyRun 38 rfl) rfl rfl ?_
      refine vg_icmp_ne (pc := 63) (t := 72) (dK D_Mo_emptyRun 39 rfl) rfl (inRk rfl) ha1 (fun hc9 => ?_) (fun hc9 => ?_)
      · replace h := ifN h hc9
        refine nmE h (fun v8 e_v8 h => ?_)
        refine vg_iinc (pc := 72) (j := 3) (a := a3) (z := 1) (ls2 := [(3, V v8), (2, V 0), (0, .ref c0), (1, V a1)]) (dK D_Mo_emptyRun 46 rfl) rfl e_v8 (ltK rfl) rfl ?_
        refine g_goto (pc := 75) (tgt := 36) (dK D_Mo_emptyRun 47 rfl) rfl ?_
        refine gL_weak (ls' := [(0, .ref c0), (1, V a1), (2, V 0), (3, V v8)]) (sbc 2 rfl (sbc 3 rfl (sbc 1 rfl (sbc 0 rfl sbn)))) ?_
        replace h := ih _ h
        exact h (inRk rfl) (Vn_in e_v8)
      · replace h := ifP h hc9
        refine g_iloadn (pc := 66) (i0 := 3) (j := 3) (dK D_Mo_emptyRun 40 rfl) rfl rfl ?_
        refine g_iloadn (pc := 67) (i0 := 1) (j := 2) (dK D_Mo_emptyRun 41 rfl) rfl rfl ?_
        refine vg_isub (pc := 68) (dK D_Mo_emptyRun 42 rfl) ?_
        refine vg_iconst (pc := 69) (dK D_Mo_emptyRun 43 rfl) ?_
        refine vg_iadd (pc := 70) (dK D_Mo_emptyRun 44 rfl) ?_
        refine gtop (x := (wr ((a3 - a1) + 1))) rfl ?_
        exact vg_iretI (pc := 71) (r := (wr ((a3 - a1) + 1))) (dK D_Mo_emptyRun 45 rfl) rfl (leK rfl) (leK rfl) (fun _ => rfl) (hr _ (Option.some.inj h).symm (wr_in _))
    · replace h := ifP h hc13
      refine g_iloadn (pc := 53) (i0 := 2) (j := 2) (dK D_Mo_emptyRun 31 rfl) rfl rfl ?_
      refine vg_iconst (pc := 54) (dK D_Mo_emptyRun 32 rfl) ?_
      refine vg_iadd (pc := 55) (dK D_Mo_emptyRun 33 rfl) ?_
      refine g_goto (pc := 56) (tgt := 60) (dK D_Mo_emptyRun 34 rfl) rfl ?_
      refine nmE h (fun v10 e_v10 h => ?_)
      refine gtop e_v10 ?_
      refine g_istoren (pc := 60) (i0 := 2) (ls2 := [(2, V v10), (0, .ref c0), (1, V a1), (3, V a3)]) (dK D_Mo_emptyRun 36 rfl) rfl (ltK rfl) rfl ?_
      refine g_iloadn (pc := 61) (i0 := 2) (j := 0) (dK D_Mo_emptyRun 37 rfl) rfl rfl ?_
      refine g_iloadn (pc := 62) (i0 := 1) (j := 2) (dK D_Mo_emptyRun 38 rfl) rfl rfl ?_
      refine vg_icmp_ne (pc := 63) (t := 72) (dK D_Mo_emptyRun 39 rfl) rfl (Vn_in e_v10) ha1 (fun hc12 => ?_) (fun hc12 => ?_)
      · replace h := ifN h hc12
        refine nmE h (fun v11 e_v11 h => ?_)
        refine vg_iinc (pc := 72) (j := 3) (a := a3) (z := 1) (ls2 := [(3, V v11), (2, V v10), (0, .ref c0), (1, V a1)]) (dK D_Mo_emptyRun 46 rfl) rfl e_v11 (ltK rfl) rfl ?_
        refine g_goto (pc := 75) (tgt := 36) (dK D_Mo_emptyRun 47 rfl) rfl ?_
        refine gL_weak (ls' := [(0, .ref c0), (1, V a1), (2, V v10), (3, V v11)]) (sbc 2 rfl (sbc 3 rfl (sbc 1 rfl (sbc 0 rfl sbn)))) ?_
        replace h := ih _ h
        exact h (Vn_in e_v10) (Vn_in e_v11)
      · replace h := ifP h hc12
        refine g_iloadn (pc := 66) (i0 := 3) (j := 3) (dK D_Mo_emptyRun 40 rfl) rfl rfl ?_
        refine g_iloadn (pc := 67) (i0 := 1) (j := 2) (dK D_Mo_emptyRun 41 rfl) rfl rfl ?_
        refine vg_isub (pc := 68) (dK D_Mo_emptyRun 42 rfl) ?_
        refine vg_iconst (pc := 69) (dK D_Mo_emptyRun 43 rfl) ?_
        refine vg_iadd (pc := 70) (dK D_Mo_emptyRun 44 rfl) ?_
        refine gtop (x := (wr ((a3 - a1) + 1))) rfl ?_
        exact vg_iretI (pc := 71) (r := (wr ((a3 - a1) + 1))) (dK D_Mo_emptyRun 45 rfl) rfl (leK rfl) (leK rfl) (fun _ => rfl) (hr _ (Option.some.inj h).symm (wr_in _))
def fn_Mo_emptyRun (c0 : Nat) (a1 : Int) (S : St) : Option (Int × St) := nm (u S c0 4 0) fun S1 => bnO (fn_Mo_inRange a1 1 64 S1) fun p2 => if p2 = true then (bnO (fn_Mo_throwsIf c0 0 1 S1) fun p4 => if p4.1 = true then (some (0, p4.2)) else (bnS (lo_Mo_emptyRun_36 c0 a1 p4.2 FU (0, 1)) (fun p16 => some (p16, p4.2)) fun p15 => some ((-1), p4.2))) else (bnO (fn_Mo_throwsIf c0 1 1 S1) fun p17 => if p17.1 = true then (some (0, p17.2)) else (bnS (lo_Mo_emptyRun_36 c0 a1 p17.2 FU (0, 1)) (fun p20 => some (p20, p17.2)) fun p19 => some ((-1), p17.2)))
theorem tf_Mo_emptyRun {E : EV} {X : XT} {c0 : Nat} (hc0 : HC X 11 c0) {a1 : Int} (ha1 : inR a1) {S : St} {q : Int × St} (h : fn_Mo_emptyRun c0 a1 S = some q) : Ev E M_Mo_emptyRun [.ref c0, V a1] (WX X S) 0 0 (KI X q.1 q.2) := by
  refine Ev.of pn_Mo rfl (leK rfl) ?_
  show Go E M_Mo_emptyRun 0 0 0 [(0, .ref c0), (1, V a1)] [] (WX X S) 0 0 (KI X q.1 q.2)
  unfold fn_Mo_emptyRun at h
  refine g_aloadn (pc := 0) (i0 := 0) (j := 0) (dK D_Mo_emptyRun 0 rfl) rfl rfl ?_
  refine vg_iconst (pc := 1) (dK D_Mo_emptyRun 1 rfl) ?_
  refine nmE h (fun S1 e_S1 h => ?_)
  refine vg_putI (pc := 2) (ci := 11) (f := 4) (z := 0) (dK D_Mo_emptyRun 2 rfl) q_1446 hc0 (ltK rfl) (ltK rfl) rfl rfl e_S1 ?_
  refine g_aloadn (pc := 5) (i0 := 0) (j := 0) (dK D_Mo_emptyRun 3 rfl) rfl rfl ?_
  refine g_iloadn (pc := 6) (i0 := 1) (j := 1) (dK D_Mo_emptyRun 4 rfl) rfl rfl ?_
  refine vg_i2l (pc := 7) (dK D_Mo_emptyRun 5 rfl) ha1 ?_
  refine vg_lconst (pc := 8) (y := 1) (dK D_Mo_emptyRun 6 rfl) rfl ?_
  refine vg_ldc2 (pc := 9) (y := 64) (dK D_Mo_emptyRun 7 rfl) q_1986 rfl ?_
  refine bnE h (fun p2 e_p2 h => ?_)
  refine vg_cS (pc := 12) (As := [J a1, J 1, J 64]) (rest := [.ref c0]) (mc' := 0) (ms' := 0) (dK D_Mo_emptyRun 8 rfl) K_Mo_67 (fitK rfl) rfl (leK rfl) (leK rfl) (leK rfl) (tf_Mo_inRange (inR_L ha1) (inLk rfl) (inLk rfl) e_p2) (kcB ?_)
  refine vg_ifB_ne (pc := 15) (b := p2) (t := 22) (dK D_Mo_emptyRun 9 rfl) rfl (fun hc3 => ?_) (fun hc3 => ?_)
  · replace h := ifP h hc3
    refine vg_iconst (pc := 22) (dK D_Mo_emptyRun 12 rfl) ?_
    refine vg_iconst (pc := 23) (dK D_Mo_emptyRun 13 rfl) ?_
    refine bnE h (fun p4 e_p4 h => ?_)
    refine vg_cV (pc := 24) (As := [V 0, V 1]) (rest := []) (mc' := 0) (ms' := 0) (dK D_Mo_emptyRun 14 rfl) K_Mo_125 (fitK rfl) (ltK rfl) hc0 rfl (leK rfl) (leK rfl) (leK rfl) (tf_Mo_throwsIf hc0 (inRk rfl) (inRk rfl) e_p4) (kcB ?_)
    refine vg_ifB_eq (pc := 27) (b := p4.1) (t := 32) (dK D_Mo_emptyRun 15 rfl) rfl (fun hc5 => ?_) (fun hc5 => ?_)
    · replace h := ifP h hc5
      refine vg_iconst (pc := 30) (dK D_Mo_emptyRun 16 rfl) ?_
      exact vg_iretI (pc := 31) (r := 0) (dK D_Mo_emptyRun 17 rfl) rfl (leK rfl) (leK rfl) (fun _ => rfl) (by obtain rfl := Option.some.inj h; exact ⟨rfl, (inRk rfl), rfl⟩)
    · replace h := ifN h hc5
      refine vg_iconst (pc := 32) (dK D_Mo_emptyRun 18 rfl) ?_
      refine g_istoren (pc := 33) (i0 := 2) (ls2 := [(2, V 0), (0, .ref c0), (1, V a1)]) (dK D_Mo_emptyRun 19 rfl) rfl (ltK rfl) rfl ?_
      refine vg_iconst (pc := 34) (dK D_Mo_emptyRun 20 rfl) ?_
      refine g_istoren (pc := 35) (i0 := 3) (ls2 := [(3, V 1), (2, V 0), (0, .ref c0), (1, V a1)]) (dK D_Mo_emptyRun 21 rfl) rfl (ltK rfl) rfl ?_
      refine bnSE h (fun p16 e_p16 h => ?_) (fun p15 e_p15 h => ?_)
      · refine gL_weak (ls' := [(0, .ref c0), (1, V a1), (2, V 0), (3, V 1)]) (sbc 2 rfl (sbc 3 rfl (sbc 1 rfl (sbc 0 rfl sbn)))) ?_
        refine tl_Mo_emptyRun_36 hc0 ha1 (fun _ e => slr e) (fun p e hr_p16 => ?_) FU (0, 1) e_p16 (inRk rfl) (inRk rfl)
        have e := Sum.inl.inj e
        subst e
        exact (by obtain rfl := Option.some.inj h; exact ⟨rfl, hr_p16, rfl⟩)
      · refine gL_weak (ls' := [(0, .ref c0), (1, V a1), (2, V 0), (3, V 1)]) (sbc 2 rfl (sbc 3 rfl (sbc 1 rfl (sbc 0 rfl sbn)))) ?_
        refine tl_Mo_emptyRun_36 hc0 ha1 (fun p e => ?_) (fun _ e => srl e) FU (0, 1) e_p15 (inRk rfl) (inRk rfl)
        have e := Sum.inr.inj e
        subst e
        refine vg_iconst (pc := 78) (dK D_Mo_emptyRun 48 rfl) ?_
        exact vg_iretI (pc := 79) (r := (-1)) (dK D_Mo_emptyRun 49 rfl) rfl (leK rfl) (leK rfl) (fun _ => rfl) (by obtain rfl := Option.some.inj h; exact ⟨rfl, (inRk rfl), rfl⟩)
  · replace h := ifN h hc3
    refine vg_iconst (pc := 18) (dK D_Mo_emptyRun 10 rfl) ?_
    refine g_goto (pc := 19) (tgt := 23) (dK D_Mo_emptyRun 11 rfl) rfl ?_
    refine vg_iconst (pc := 23) (dK D_Mo_emptyRun 13 rfl) ?_
    refine bnE h (fun p17 e_p17 h => ?_)
    refine vg_cV (pc := 24) (As := [V 1, V 1]) (rest := []) (mc' := 0) (ms' := 0) (dK D_Mo_emptyRun 14 rfl) K_Mo_125 (fitK rfl) (ltK rfl) hc0 rfl (leK rfl) (leK rfl) (leK rfl) (tf_Mo_throwsIf hc0 (inRk rfl) (inRk rfl) e_p17) (kcB ?_)
    refine vg_ifB_eq (pc := 27) (b := p17.1) (t := 32) (dK D_Mo_emptyRun 15 rfl) rfl (fun hc18 => ?_) (fun hc18 => ?_)
    · replace h := ifP h hc18
      refine vg_iconst (pc := 30) (dK D_Mo_emptyRun 16 rfl) ?_
      exact vg_iretI (pc := 31) (r := 0) (dK D_Mo_emptyRun 17 rfl) rfl (leK rfl) (leK rfl) (fun _ => rfl) (by obtain rfl := Option.some.inj h; exact ⟨rfl, (inRk rfl), rfl⟩)
    · replace h := ifN h hc18
      refine vg_iconst (pc := 32) (dK D_Mo_emptyRun 18 rfl) ?_
      refine g_istoren (pc := 33) (i0 := 2) (ls2 := [(2, V 0), (0, .ref c0), (1, V a1)]) (dK D_Mo_emptyRun 19 rfl) rfl (ltK rfl) rfl ?_
      refine vg_iconst (pc := 34) (dK D_Mo_emptyRun 20 rfl) ?_
      refine g_istoren (pc := 35) (i0 := 3) (ls2 := [(3, V 1), (2, V 0), (0, .ref c0), (1, V a1)]) (dK D_Mo_emptyRun 21 rfl) rfl (ltK rfl) rfl ?_
      refine bnSE h (fun p20 e_p20 h => ?_) (fun p19 e_p19 h => ?_)
      · refine gL_weak (ls' := [(0, .ref c0), (1, V a1), (2, V 0), (3, V 1)]) (sbc 2 rfl (sbc 3 rfl (sbc 1 rfl (sbc 0 rfl sbn)))) ?_
        refine tl_Mo_emptyRun_36 hc0 ha1 (fun _ e => slr e) (fun p e hr_p20 => ?_) FU (0, 1) e_p20 (inRk rfl) (inRk rfl)
        have e := Sum.inl.inj e
        subst e
        exact (by obtain rfl := Option.some.inj h; exact ⟨rfl, hr_p20, rfl⟩)
      · refine gL_weak (ls' := [(0, .ref c0), (1, V a1), (2, V 0), (3, V 1)]) (sbc 2 rfl (sbc 3 rfl (sbc 1 rfl (sbc 0 rfl sbn)))) ?_
        refine tl_Mo_emptyRun_36 hc0 ha1 (fun p e => ?_) (fun _ e => srl e) FU (0, 1) e_p19 (inRk rfl) (inRk rfl)
        have e := Sum.inr.inj e
        subst e
        refine vg_iconst (pc := 78) (dK D_Mo_emptyRun 48 rfl) ?_
        exact vg_iretI (pc := 79) (r := (-1)) (dK D_Mo_emptyRun 49 rfl) rfl (leK rfl) (leK rfl) (fun _ => rfl) (by obtain rfl := Option.some.inj h; exact ⟨rfl, (inRk rfl), rfl⟩)
def lb_Mo_emptiest_20 (c0 : Nat) (a1 : Int) (a2 : Int) (S : St) (go : Int × Int → Option (Int)) (a3 : Int) (a4 : Int) : Option (Int) := bnO (fn_Mo_pageMany c0 S) fun p3 => if p3 < a4 then (some a3) else (bnO (fn_Mo_left c0 a4 S) fun p4 => bnO (fn_Mo_left c0 a2 S) fun p5 => if p5 < p4 then (nm (wr (a3 + 1)) fun v6 => nm (wr (a4 + 1)) fun v7 => go (v6, v7)) else (bnO (fn_Mo_left c0 a4 S) fun p8 => bnO (fn_Mo_left c0 a2 S) fun p9 => if p8 = p9 then (if a2 ≤ a4 then (nm (wr (a3 + 0)) fun v12 => nm (wr (a4 + 1)) fun v13 => go (v12, v13)) else (nm (wr (a3 + 1)) fun v14 => nm (wr (a4 + 1)) fun v15 => go (v14, v15))) else (nm (wr (a3 + 0)) fun v10 => nm (wr (a4 + 1)) fun v11 => go (v10, v11))))
def lo_Mo_emptiest_20 (c0 : Nat) (a1 : Int) (a2 : Int) (S : St) : Nat → Int × Int → Option (Int) := lp fun go p => lb_Mo_emptiest_20 c0 a1 a2 S go p.1 p.2
theorem tl_Mo_emptiest_20 {E : EV} {X : XT} {c0 : Nat} (hc0 : HC X 11 c0) {a1 : Int} (ha1 : inR a1) {a2 : Int} (ha2 : inR a2) {S : St} {K : RK → PS → Prop} {q : Int} (hx : inR q → Go E M_Mo_emptiest 0 0 77 [(0, .ref c0), (1, V a1), (2, V a2), (3, V q)] [] (WX X S) 0 0 K) : ∀ n a, lo_Mo_emptiest_20 c0 a1 a2 S n a = some q → inR a.1 → inR a.2 → Go E M_Mo_emptiest 0 0 20 [(0, .ref c0), (1, V a1), (2, V a2), (3, V a.1), (4, V a.2)] [] (WX X S) 0 0 K := by
  refine lp_ind (P := fun a : Int × Int => inR a.1 → inR a.2 → Go E M_Mo_emptiest 0 0 20 [(0, .ref c0), (1, V a1), (2, V a2), (3, V a.1), (4, V a.2)] [] (WX X S) 0 0 K) (fun go ih a h => ?_)
  obtain ⟨a3, a4⟩ := a
  intro ha3 ha4
  show Go E M_Mo_emptiest 0 0 20 [(0, .ref c0), (1, V a1), (2, V a2), (3, V a3), (4, V a4)] [] (WX X S) 0 0 K
  replace h : lb_Mo_emptiest_20 c0 a1 a2 S go a3 a4 = some q := h
  unfold lb_Mo_emptiest_20 at h
  refine g_iload (pc := 20) (j := 4) (dK D_Mo_emptiest_0 13 rfl) rfl ?_
  refine g_aloadn (pc := 22) (i0 := 0) (j := 0) (dK D_Mo_emptiest_0 14 rfl) rfl rfl ?_
  refine bnE h (fun p3 e_p3 h => ?_)
  refine vg_cV (pc := 23) (As := []) (rest := [V a4]) (mc' := 0) (ms' := 0) (dK D_Mo_emptiest_0 15 rfl) K_Mo_63 (fitK rfl) (ltK rfl) hc0 rfl (leK rfl) (leK rfl) (leK rfl) (tf_Mo_pageMany hc0 e_p3) (kcI (fun h_p3 => ?_))
  refine vg_icmp_gt (pc := 26) (t := 77) (dK D_Mo_emptiest_0 16 rfl) rfl ha4 h_p3 (fun hc19 => ?_) (fun hc19 => ?_)
  · replace h := ifP h hc19
    obtain rfl := Option.some.inj h
    refine gL_weak (ls' := [(0, .ref c0), (1, V a1), (2, V a2), (3, V a3)]) (sbc 0 rfl (sbc 1 rfl (sbc 2 rfl (sbc 3 rfl sbn)))) ?_
    exact hx ha3
  · replace h := ifN h hc19
    refine g_iloadn (pc := 29) (i0 := 3) (j := 3) (dK D_Mo_emptiest_0 17 rfl) rfl rfl ?_
    refine g_aloadn (pc := 30) (i0 := 0) (j := 0) (dK D_Mo_emptiest_0 18 rfl) rfl rfl ?_
    refine g_iload (pc := 31) (j := 4) (dK D_Mo_emptiest_0 19 rfl) rfl ?_
    refine bnE h (fun p4 e_p4 h => ?_)
    refine vg_cV (pc := 33) (As := [V a4]) (rest := [V a3]) (mc' := 0) (ms' := 0) (dK D_Mo_emptiest_0 20 rfl) K_Mo_184 (fitK rfl) (ltK rfl) hc0 rfl (leK rfl) (leK rfl) (leK rfl) (tf_Mo_left hc0 ha4 e_p4) (kcI (fun h_p4 => ?_))
    refine g_aloadn (pc := 36) (i0 := 0) (j := 0) (dK D_Mo_emptiest_0 21 rfl) rfl rfl ?_
    refine g_iloadn (pc := 37) (i0 := 2) (j := 2) (dK D_Mo_emptiest_0 22 rfl) rfl rfl ?_
    refine bnE h (fun p5 e_p5 h => ?_)
    refine vg_cV (pc := 38) (As := [V a2]) (rest := [V p4, V a3]) (mc' := 0) (ms' := 0) (dK D_Mo_emptiest_0 23 rfl) K_Mo_184 (fitK rfl) (ltK rfl) hc0 rfl (leK rfl) (leK rfl) (leK rfl) (tf_Mo_left hc0 ha2 e_p5) (kcI (fun h_p5 => ?_))
    refine vg_icmp_gt (pc := 41) (t := 64) (dK D_Mo_emptiest_0 24 rfl) rfl h_p4 h_p5 (fun hc18 => ?_) (fun hc18 => ?_)
    · replace h := ifP h hc18
      refine vg_iconst (pc := 64) (dK D_Mo_emptiest_0 35 rfl) ?_
      refine g_goto (pc := 65) (tgt := 69) (dK D_Mo_emptiest_0 36 rfl) rfl ?_
      refine vg_iadd (pc := 69) (dK D_Mo_emptiest_0 38 rfl) ?_
      refine nmE h (fun v6 e_v6 h => ?_)
      refine gtop e_v6 ?_
      refine g_istoren (pc := 70) (i0 := 3) (ls2 := [(3, V v6), (0, .ref c0), (1, V a1), (2, V a2), (4, V a4)]) (dK D_Mo_emptiest_0 39 rfl) rfl (ltK rfl) rfl ?_
      refine nmE h (fun v7 e_v7 h => ?_)
      refine vg_iinc (pc := 71) (j := 4) (a := a4) (z := 1) (ls2 := [(4, V v7), (3, V v6), (0, .ref c0), (1, V a1), (2, V a2)]) (dK D_Mo_emptiest_0 40 rfl) rfl e_v7 (ltK rfl) rfl ?_
      refine g_goto (pc := 74) (tgt := 20) (dK D_Mo_emptiest_0 41 rfl) rfl ?_
      refine gL_weak (ls' := [(0, .ref c0), (1, V a1), (2, V a2), (3, V v6), (4, V v7)]) (sbc 2 rfl (sbc 3 rfl (sbc 4 rfl (sbc 1 rfl (sbc 0 rfl sbn))))) ?_
      replace h := ih _ h
      exact h (Vn_in e_v6) (Vn_in e_v7)
    · replace h := ifN h hc18
      refine g_aloadn (pc := 44) (i0 := 0) (j := 0) (dK D_Mo_emptiest_0 25 rfl) rfl rfl ?_
      refine g_iload (pc := 45) (j := 4) (dK D_Mo_emptiest_0 26 rfl) rfl ?_
      refine bnE h (fun p8 e_p8 h => ?_)
      refine vg_cV (pc := 47) (As := [V a4]) (rest := [V a3]) (mc' := 0) (ms' := 0) (dK D_Mo_emptiest_0 27 rfl) K_Mo_184 (fitK rfl) (ltK rfl) hc0 rfl (leK rfl) (leK rfl) (leK rfl) (tf_Mo_left hc0 ha4 e_p8) (kcI (fun h_p8 => ?_))
      refine g_aloadn (pc := 50) (i0 := 0) (j := 0) (dK D_Mo_emptiest_0 28 rfl) rfl rfl ?_
      refine g_iloadn (pc := 51) (i0 := 2) (j := 2) (dK D_Mo_emptiest_0 29 rfl) rfl rfl ?_
      refine bnE h (fun p9 e_p9 h => ?_)
      refine vg_cV (pc := 52) (As := [V a2]) (rest := [V p8, V a3]) (mc' := 0) (ms' := 0) (dK D_Mo_emptiest_0 30 rfl) K_Mo_184 (fitK rfl) (ltK rfl) hc0 rfl (leK rfl) (leK rfl) (leK rfl) (tf_Mo_left hc0 ha2 e_p9) (kcI (fun h_p9 => ?_))
      refine vg_icmp_ne (pc := 55) (t := 68) (dK D_Mo_emptiest_0 31 rfl) rfl h_p8 h_p9 (fun hc17 => ?_) (fun hc17 => ?_)
      · replace h := ifN h hc17
        refine vg_iconst (pc := 68) (dK D_Mo_emptiest_0 37 rfl) ?_
        refine vg_iadd (pc := 69) (dK D_Mo_emptiest_0 38 rfl) ?_
        refine nmE h (fun v10 e_v10 h => ?_)
        refine gtop e_v10 ?_
        refine g_istoren (pc := 70) (i0 := 3) (ls2 := [(3, V v10), (0, .ref c0), (1, V a1), (2, V a2), (4, V a4)]) (dK D_Mo_emptiest_0 39 rfl) rfl (ltK rfl) rfl ?_
        refine nmE h (fun v11 e_v11 h => ?_)
        refine vg_iinc (pc := 71) (j := 4) (a := a4) (z := 1) (ls2 := [(4, V v11), (3, V v10), (0, .ref c0), (1, V a1), (2, V a2)]) (dK D_Mo_emptiest_0 40 rfl) rfl e_v11 (ltK rfl) rfl ?_
        refine g_goto (pc := 74) (tgt := 20) (dK D_Mo_emptiest_0 41 rfl) rfl ?_
        refine gL_weak (ls' := [(0, .ref c0), (1, V a1), (2, V a2), (3, V v10), (4, V v11)]) (sbc 2 rfl (sbc 3 rfl (sbc 4 rfl (sbc 1 rfl (sbc 0 rfl sbn))))) ?_
        replace h := ih _ h
        exact h (Vn_in e_v10) (Vn_in e_v11)
      · replace h := ifP h hc17
        refine g_iload (pc := 58) (j := 4) (dK D_Mo_emptiest_0 32 rfl) rfl ?_
        refine g_iloadn (pc := 60) (i0 := 2) (j := 2) (dK D_Mo_emptiest_0 33 rfl) rfl rfl ?_
        refine vg_icmp_ge (pc := 61) (t := 68) (dK D_Mo_emptiest_0 34 rfl) rfl ha4 ha2 (fun hc16 => ?_) (fun hc16 => ?_)
        · replace h := ifP h hc16
          refine vg_iconst (pc := 68) (dK D_Mo_emptiest_0 37 rfl) ?_
          refine vg_iadd (pc := 69) (dK D_Mo_emptiest_0 38 rfl) ?_
          refine nmE h (fun v12 e_v12 h => ?_)
          refine gtop e_v12 ?_
          refine g_istoren (pc := 70) (i0 := 3) (ls2 := [(3, V v12), (0, .ref c0), (1, V a1), (2, V a2), (4, V a4)]) (dK D_Mo_emptiest_0 39 rfl) rfl (ltK rfl) rfl ?_
          refine nmE h (fun v13 e_v13 h => ?_)
          refine vg_iinc (pc := 71) (j := 4) (a := a4) (z := 1) (ls2 := [(4, V v13), (3, V v12), (0, .ref c0), (1, V a1), (2, V a2)]) (dK D_Mo_emptiest_0 40 rfl) rfl e_v13 (ltK rfl) rfl ?_
          refine g_goto (pc := 74) (tgt := 20) (dK D_Mo_emptiest_0 41 rfl) rfl ?_
          refine gL_weak (ls' := [(0, .ref c0), (1, V a1), (2, V a2), (3, V v12), (4, V v13)]) (sbc 2 rfl (sbc 3 rfl (sbc 4 rfl (sbc 1 rfl (sbc 0 rfl sbn))))) ?_
          replace h := ih _ h
          exact h (Vn_in e_v12) (Vn_in e_v13)
        · replace h := ifN h hc16
          refine vg_iconst (pc := 64) (dK D_Mo_emptiest_0 35 rfl) ?_
          refine g_goto (pc := 65) (tgt := 69) (dK D_Mo_emptiest_0 36 rfl) rfl ?_
          refine vg_iadd (pc := 69) (dK D_Mo_emptiest_0 38 rfl) ?_
          refine nmE h (fun v14 e_v14 h => ?_)
          refine gtop e_v14 ?_
          refine g_istoren (pc := 70) (i0 := 3) (ls2 := [(3, V v14), (0, .ref c0), (1, V a1), (2, V a2), (4, V a4)]) (dK D_Mo_emptiest_0 39 rfl) rfl (ltK rfl) rfl ?_
          refine nmE h (fun v15 e_v15 h => ?_)
          refine vg_iinc (pc := 71) (j := 4) (a := a4) (z := 1) (ls2 := [(4, V v15), (3, V v14), (0, .ref c0), (1, V a1), (2, V a2)]) (dK D_Mo_emptiest_0 40 rfl) rfl e_v15 (ltK rfl) rfl ?_
          refine g_goto (pc := 74) (tgt := 20) (dK D_Mo_emptiest_0 41 rfl) rfl ?_
          refine gL_weak (ls' := [(0, .ref c0), (1, V a1), (2, V a2), (3, V v14), (4, V v15)]) (sbc 2 rfl (sbc 3 rfl (sbc 4 rfl (sbc 1 rfl (sbc 0 rfl sbn))))) ?_
          replace h := ih _ h
          exact h (Vn_in e_v14) (Vn_in e_v15)
def lb_Mo_emptiest_7 (c0 : Nat) (a1 : Int) (S : St) (go : Int → Option ((Int) ⊕ (Unit))) (a2 : Int) : Option ((Int) ⊕ (Unit)) := bnO (fn_Mo_pageMany c0 S) fun p2 => if p2 < a2 then (some (.inr ())) else (bnO (lo_Mo_emptiest_20 c0 a1 a2 S FU (0, 1)) fun p20 => if p20 = a1 then (some (.inl a2)) else (nm (wr (a2 + 1)) fun v21 => go v21))
def lo_Mo_emptiest_7 (c0 : Nat) (a1 : Int) (S : St) : Nat → Int → Option ((Int) ⊕ (Unit)) := lp fun go p => lb_Mo_emptiest_7 c0 a1 S go p
theorem tl_Mo_emptiest_7 {E : EV} {X : XT} {c0 : Nat} (hc0 : HC X 11 c0) {a1 : Int} (ha1 : inR a1) {S : St} {K : RK → PS → Prop} {q : (Int) ⊕ (Unit)} (hx : ∀ p, q = .inr p → Go E M_Mo_emptiest 0 0 90 [] [] (WX X S) 0 0 K) (hr : ∀ p, q = .inl p → inR p → K (.inl (some (V p))) (WX X S)) : ∀ n a, lo_Mo_emptiest_7 c0 a1 S n a = some q → inR a → Go E M_Mo_emptiest 0 0 7 [(0, .ref c0), (1, V a1), (2, V a)] [] (WX X S) 0 0 K := by
  refine lp_ind (P := fun a : Int => inR a → Go E M_Mo_emptiest 0 0 7 [(0, .ref c0), (1, V a1), (2, V a)] [] (WX X S) 0 0 K) (fun go ih a2 h => ?_)
  intro ha2
  show Go E M_Mo_emptiest 0 0 7 [(0, .ref c0), (1, V a1), (2, V a2)] [] (WX X S) 0 0 K
  replace h : lb_Mo_emptiest_7 c0 a1 S go a2 = some q := h
  unfold lb_Mo_emptiest_7 at h
  refine g_iloadn (pc := 7) (i0 := 2) (j := 2) (dK D_Mo_emptiest_0 5 rfl) rfl rfl ?_
  refine g_aloadn (pc := 8) (i0 := 0) (j := 0) (dK D_Mo_emptiest_0 6 rfl) rfl rfl ?_
  refine bnE h (fun p2 e_p2 h => ?_)
  refine vg_cV (pc := 9) (As := []) (rest := [V a2]) (mc' := 0) (ms' := 0) (dK D_Mo_emptiest_0 7 rfl) K_Mo_63 (fitK rfl) (ltK rfl) hc0 rfl (leK rfl) (leK rfl) (leK rfl) (tf_Mo_pageMany hc0 e_p2) (kcI (fun h_p2 => ?_))
  refine vg_icmp_gt (pc := 12) (t := 90) (dK D_Mo_emptiest_0 8 rfl) rfl ha2 h_p2 (fun hc23 => ?_) (fun hc23 => ?_)
  · replace h := ifP h hc23
    refine gL_weak (ls' := []) sbn ?_
    exact hx _ (Option.some.inj h).symm 
  · replace h := ifN h hc23
    refine vg_iconst (pc := 15) (dK D_Mo_emptiest_0 9 rfl) ?_
    refine g_istoren (pc := 16) (i0 := 3) (ls2 := [(3, V 0), (0, .ref c0), (1, V a1), (2, V a2)]) (dK D_Mo_emptiest_0 10 rfl) rfl (ltK rfl) rfl ?_
    refine vg_iconst (pc := 17) (dK D_Mo_emptiest_0 11 rfl) ?_
    refine g_istore (pc := 18) (ls2 := [(4, V 1), (3, V 0), (0, .ref c0), (1, V a1), (2, V a2)]) (dK D_Mo_emptiest_0 12 rfl) (ltK rfl) rfl ?_
    refine bnE h (fun p20 e_p20 h => ?_)
    refine gL_weak (ls' := [(0, .ref c0), (1, V a1), (2, V a2), (3, V 0), (4, V 1)]) (sbc 2 rfl (sbc 3 rfl (sbc 4 rfl (sbc 1 rfl (sbc 0 rfl sbn))))) ?_
    refine tl_Mo_emptiest_20 hc0 ha1 ha2 (fun hx3_p20 => ?_) FU (0, 1) e_p20 (inRk rfl) (inRk rfl)
    refine g_iloadn (pc := 77) (i0 := 3) (j := 3) (dK D_Mo_emptiest_0 42 rfl) rfl rfl ?_
    refine g_iloadn (pc := 78) (i0 := 1) (j := 1) (dK D_Mo_emptiest_0 43 rfl) rfl rfl ?_
    refine vg_icmp_ne (pc := 79) (t := 84) (dK D_Mo_emptiest_0 44 rfl) rfl hx3_p20 ha1 (fun hc22 => ?_) (fun hc22 => ?_)
    · replace h := ifN h hc22
      refine nmE h (fun v21 e_v21 h => ?_)
      refine vg_iinc (pc := 84) (j := 2) (a := a2) (z := 1) (ls2 := [(2, V v21), (0, .ref c0), (1, V a1), (3, V p20)]) (dK D_Mo_emptiest_0 47 rfl) rfl e_v21 (ltK rfl) rfl ?_
      refine g_goto (pc := 87) (tgt := 7) (dK D_Mo_emptiest_0 48 rfl) rfl ?_
      refine gL_weak (ls' := [(0, .ref c0), (1, V a1), (2, V v21)]) (sbc 1 rfl (sbc 2 rfl (sbc 0 rfl sbn))) ?_
      replace h := ih _ h
      exact h (Vn_in e_v21)
    · replace h := ifP h hc22
      refine g_iloadn (pc := 82) (i0 := 2) (j := 2) (dK D_Mo_emptiest_0 45 rfl) rfl rfl ?_
      exact vg_iretI (pc := 83) (r := a2) (dK D_Mo_emptiest_0 46 rfl) rfl (leK rfl) (leK rfl) (fun _ => rfl) (hr _ (Option.some.inj h).symm ha2)
def fn_Mo_emptiest (c0 : Nat) (a1 : Int) (S : St) : Option (Int × St) := nm (u S c0 4 0) fun S1 => bnS (lo_Mo_emptiest_7 c0 a1 S1 FU 1) (fun p25 => some (p25, S1)) fun p24 => some ((-1), S1)
theorem tf_Mo_emptiest {E : EV} {X : XT} {c0 : Nat} (hc0 : HC X 11 c0) {a1 : Int} (ha1 : inR a1) {S : St} {q : Int × St} (h : fn_Mo_emptiest c0 a1 S = some q) : Ev E M_Mo_emptiest [.ref c0, V a1] (WX X S) 0 0 (KI X q.1 q.2) := by
  refine Ev.of pn_Mo rfl (leK rfl) ?_
  show Go E M_Mo_emptiest 0 0 0 [(0, .ref c0), (1, V a1)] [] (WX X S) 0 0 (KI X q.1 q.2)
  unfold fn_Mo_emptiest at h
  refine g_aloadn (pc := 0) (i0 := 0) (j := 0) (dK D_Mo_emptiest_0 0 rfl) rfl rfl ?_
  refine vg_iconst (pc := 1) (dK D_Mo_emptiest_0 1 rfl) ?_
  refine nmE h (fun S1 e_S1 h => ?_)
  refine vg_putI (pc := 2) (ci := 11) (f := 4) (z := 0) (dK D_Mo_emptiest_0 2 rfl) q_1446 hc0 (ltK rfl) (ltK rfl) rfl rfl e_S1 ?_
  refine vg_iconst (pc := 5) (dK D_Mo_emptiest_0 3 rfl) ?_
  refine g_istoren (pc := 6) (i0 := 2) (ls2 := [(2, V 1), (0, .ref c0), (1, V a1)]) (dK D_Mo_emptiest_0 4 rfl) rfl (ltK rfl) rfl ?_
  refine bnSE h (fun p25 e_p25 h => ?_) (fun p24 e_p24 h => ?_)
  · refine gL_weak (ls' := [(0, .ref c0), (1, V a1), (2, V 1)]) (sbc 1 rfl (sbc 2 rfl (sbc 0 rfl sbn))) ?_
    refine tl_Mo_emptiest_7 hc0 ha1 (fun _ e => slr e) (fun p e hr_p25 => ?_) FU 1 e_p25 (inRk rfl)
    have e := Sum.inl.inj e
    subst e
    exact (by obtain rfl := Option.some.inj h; exact ⟨rfl, hr_p25, rfl⟩)
  · refine gL_weak (ls' := [(0, .ref c0), (1, V a1), (2, V 1)]) (sbc 1 rfl (sbc 2 rfl (sbc 0 rfl sbn))) ?_
    refine tl_Mo_emptiest_7 hc0 ha1 (fun p e => ?_) (fun _ e => srl e) FU 1 e_p24 (inRk rfl)
    have e := Sum.inr.inj e
    subst e
    refine vg_iconst (pc := 90) (dK D_Mo_emptiest_0 49 rfl) ?_
    exact vg_iretI (pc := 91) (r := (-1)) (dK D_Mo_emptiest_1 0 rfl) rfl (leK rfl) (leK rfl) (fun _ => rfl) (by obtain rfl := Option.some.inj h; exact ⟨rfl, (inRk rfl), rfl⟩)
def lb_Mo_fill_9 (c0 : Nat) (S : St) (go : Int × Int → Option (Int)) (a1 : Int) (a2 : Int) : Option (Int) := bnO (fn_Mo_pageMany c0 S) fun p2 => if p2 < a2 then (some a1) else (bnO (fn_Mo_left c0 a2 S) fun p3 => nm (wr (a1 + (4 - p3))) fun v4 => nm (wr (a2 + 1)) fun v5 => go (v4, v5))
def lo_Mo_fill_9 (c0 : Nat) (S : St) : Nat → Int × Int → Option (Int) := lp fun go p => lb_Mo_fill_9 c0 S go p.1 p.2
theorem tl_Mo_fill_9 {E : EV} {X : XT} {c0 : Nat} (hc0 : HC X 11 c0) {S : St} {K : RK → PS → Prop} {q : Int} (hx : inR q → Go E M_Mo_fill 0 0 33 [(0, .ref c0), (1, V q)] [] (WX X S) 0 0 K) : ∀ n a, lo_Mo_fill_9 c0 S n a = some q → inR a.1 → inR a.2 → Go E M_Mo_fill 0 0 9 [(0, .ref c0), (1, V a.1), (2, V a.2)] [] (WX X S) 0 0 K := by
  refine lp_ind (P := fun a : Int × Int => inR a.1 → inR a.2 → Go E M_Mo_fill 0 0 9 [(0, .ref c0), (1, V a.1), (2, V a.2)] [] (WX X S) 0 0 K) (fun go ih a h => ?_)
  obtain ⟨a1, a2⟩ := a
  intro ha1 ha2
  show Go E M_Mo_fill 0 0 9 [(0, .ref c0), (1, V a1), (2, V a2)] [] (WX X S) 0 0 K
  replace h : lb_Mo_fill_9 c0 S go a1 a2 = some q := h
  unfold lb_Mo_fill_9 at h
  refine g_iloadn (pc := 9) (i0 := 2) (j := 2) (dK D_Mo_fill 7 rfl) rfl rfl ?_
  refine g_aloadn (pc := 10) (i0 := 0) (j := 0) (dK D_Mo_fill 8 rfl) rfl rfl ?_
  refine bnE h (fun p2 e_p2 h => ?_)
  refine vg_cV (pc := 11) (As := []) (rest := [V a2]) (mc' := 0) (ms' := 0) (dK D_Mo_fill 9 rfl) K_Mo_63 (fitK rfl) (ltK rfl) hc0 rfl (leK rfl) (leK rfl) (leK rfl) (tf_Mo_pageMany hc0 e_p2) (kcI (fun h_p2 => ?_))
  refine vg_icmp_gt (pc := 14) (t := 33) (dK D_Mo_fill 10 rfl) rfl ha2 h_p2 (fun hc6 => ?_) (fun hc6 => ?_)
  · replace h := ifP h hc6
    obtain rfl := Option.some.inj h
    refine gL_weak (ls' := [(0, .ref c0), (1, V a1)]) (sbc 0 rfl (sbc 1 rfl sbn)) ?_
    exact hx ha1
  · replace h := ifN h hc6
    refine g_iloadn (pc := 17) (i0 := 1) (j := 1) (dK D_Mo_fill 11 rfl) rfl rfl ?_
    refine vg_iconst (pc := 18) (dK D_Mo_fill 12 rfl) ?_
    refine g_aloadn (pc := 19) (i0 := 0) (j := 0) (dK D_Mo_fill 13 rfl) rfl rfl ?_
    refine g_iloadn (pc := 20) (i0 := 2) (j := 2) (dK D_Mo_fill 14 rfl) rfl rfl ?_
    refine bnE h (fun p3 e_p3 h => ?_)
    refine vg_cV (pc := 21) (As := [V a2]) (rest := [V 4, V a1]) (mc' := 0) (ms' := 0) (dK D_Mo_fill 15 rfl) K_Mo_184 (fitK rfl) (ltK rfl) hc0 rfl (leK rfl) (leK rfl) (leK rfl) (tf_Mo_left hc0 ha2 e_p3) (kcI (fun h_p3 => ?_))
    refine vg_isub (pc := 24) (dK D_Mo_fill 16 rfl) ?_
    refine vg_iadd (pc := 25) (dK D_Mo_fill 17 rfl) ?_
    refine nmE h (fun v4 e_v4 h => ?_)
    refine gtop e_v4 ?_
    refine g_istoren (pc := 26) (i0 := 1) (ls2 := [(1, V v4), (0, .ref c0), (2, V a2)]) (dK D_Mo_fill 18 rfl) rfl (ltK rfl) rfl ?_
    refine nmE h (fun v5 e_v5 h => ?_)
    refine vg_iinc (pc := 27) (j := 2) (a := a2) (z := 1) (ls2 := [(2, V v5), (1, V v4), (0, .ref c0)]) (dK D_Mo_fill 19 rfl) rfl e_v5 (ltK rfl) rfl ?_
    refine g_goto (pc := 30) (tgt := 9) (dK D_Mo_fill 20 rfl) rfl ?_
    refine gL_weak (ls' := [(0, .ref c0), (1, V v4), (2, V v5)]) (sbc 2 rfl (sbc 1 rfl (sbc 0 rfl sbn))) ?_
    replace h := ih _ h
    exact h (Vn_in e_v4) (Vn_in e_v5)
def fn_Mo_fill (c0 : Nat) (S : St) : Option (UInt64 × St) := nm (u S c0 4 0) fun S1 => bnO (lo_Mo_fill_9 c0 S1 FU (0, 1)) fun p7 => bnO (fn_Mo_pageMany c0 S1) fun p8 => if ((FP.ddiv (i_d p7) (i_d (4 * p8))) &&& 0x7fffffffffffffff) ≤ 0x7ff0000000000000 then (some ((FP.ddiv (i_d p7) (i_d (4 * p8))), S1)) else none
theorem tf_Mo_fill {E : EV} {X : XT} {c0 : Nat} (hc0 : HC X 11 c0) {S : St} {q : UInt64 × St} (h : fn_Mo_fill c0 S = some q) : Ev E M_Mo_fill [.ref c0] (WX X S) 0 0 (KD X q.1 q.2) := by
  refine Ev.of pn_Mo rfl (leK rfl) ?_
  show Go E M_Mo_fill 0 0 0 [(0, .ref c0)] [] (WX X S) 0 0 (KD X q.1 q.2)
  unfold fn_Mo_fill at h
  refine g_aloadn (pc := 0) (i0 := 0) (j := 0) (dK D_Mo_fill 0 rfl) rfl rfl ?_
  refine vg_iconst (pc := 1) (dK D_Mo_fill 1 rfl) ?_
  refine nmE h (fun S1 e_S1 h => ?_)
  refine vg_putI (pc := 2) (ci := 11) (f := 4) (z := 0) (dK D_Mo_fill 2 rfl) q_1446 hc0 (ltK rfl) (ltK rfl) rfl rfl e_S1 ?_
  refine vg_iconst (pc := 5) (dK D_Mo_fill 3 rfl) ?_
  refine g_istoren (pc := 6) (i0 := 1) (ls2 := [(1, V 0), (0, .ref c0)]) (dK D_Mo_fill 4 rfl) rfl (ltK rfl) rfl ?_
  refine vg_iconst (pc := 7) (dK D_Mo_fill 5 rfl) ?_
  refine g_istoren (pc := 8) (i0 := 2) (ls2 := [(2, V 1), (1, V 0), (0, .ref c0)]) (dK D_Mo_fill 6 rfl) rfl (ltK rfl) rfl ?_
  refine bnE h (fun p7 e_p7 h => ?_)
  refine gL_weak (ls' := [(0, .ref c0), (1, V 0), (2, V 1)]) (sbc 2 rfl (sbc 1 rfl (sbc 0 rfl sbn))) ?_
  refine tl_Mo_fill_9 hc0 (fun hx1_p7 => ?_) FU (0, 1) e_p7 (inRk rfl) (inRk rfl)
  refine g_iloadn (pc := 33) (i0 := 1) (j := 1) (dK D_Mo_fill 21 rfl) rfl rfl ?_
  refine vg_i2d (pc := 34) (dK D_Mo_fill 22 rfl) ?_
  refine vg_iconst (pc := 35) (dK D_Mo_fill 23 rfl) ?_
  refine g_aloadn (pc := 36) (i0 := 0) (j := 0) (dK D_Mo_fill 24 rfl) rfl rfl ?_
  refine bnE h (fun p8 e_p8 h => ?_)
  refine vg_cV (pc := 37) (As := []) (rest := [V 4, .double (i_d p7)]) (mc' := 0) (ms' := 0) (dK D_Mo_fill 25 rfl) K_Mo_63 (fitK rfl) (ltK rfl) hc0 rfl (leK rfl) (leK rfl) (leK rfl) (tf_Mo_pageMany hc0 e_p8) (kcI (fun h_p8 => ?_))
  refine vg_imul (pc := 40) (dK D_Mo_fill 26 rfl) ?_
  refine vg_i2d (pc := 41) (dK D_Mo_fill 27 rfl) ?_
  refine gdE h (fun hd9 h => ?_)
  refine g_ddiv (pc := 42) (dK D_Mo_fill 28 rfl) hd9 ?_
  exact g_dreturn (pc := 43) (dK D_Mo_fill 29 rfl) rfl (leK rfl) (leK rfl) (fun _ => rfl) (by obtain rfl := Option.some.inj h; exact ⟨rfl, rfl⟩)
def lb_Mo_quarterPrice_9 (c0 : Nat) (S : St) (go : Int × Int → Option (Int)) (a1 : Int) (a2 : Int) : Option (Int) := if (g S (tgt c0 0) 1) ≤ a2 then (some a1) else (bnO (fn_Mo_ofAd c0 a2 6 S) fun p2 => if p2 ≤ 0 then (nm (wr (a1 + 0)) fun v3 => nm (wr (a2 + 1)) fun v4 => go (v3, v4)) else (bnO (fn_Mo_ofAd c0 a2 0 S) fun p5 => nm (wr (a1 + p5)) fun v6 => nm (wr (a2 + 1)) fun v7 => go (v6, v7)))
def lo_Mo_quarterPrice_9 (c0 : Nat) (S : St) : Nat → Int × Int → Option (Int) := lp fun go p => lb_Mo_quarterPrice_9 c0 S go p.1 p.2
theorem tl_Mo_quarterPrice_9 {E : EV} {X : XT} {c0 : Nat} (hc0 : HC X 11 c0) {S : St} {K : RK → PS → Prop} {q : Int} (hx : inR q → Go E M_Mo_quarterPrice 0 0 48 [(0, .ref c0), (1, V q)] [] (WX X S) 0 0 K) : ∀ n a, lo_Mo_quarterPrice_9 c0 S n a = some q → inR a.1 → inR a.2 → Go E M_Mo_quarterPrice 0 0 9 [(0, .ref c0), (1, V a.1), (2, V a.2)] [] (WX X S) 0 0 K := by
  refine lp_ind (P := fun a : Int × Int => inR a.1 → inR a.2 → Go E M_Mo_quarterPrice 0 0 9 [(0, .ref c0), (1, V a.1), (2, V a.2)] [] (WX X S) 0 0 K) (fun go ih a h => ?_)
  obtain ⟨a1, a2⟩ := a
  intro ha1 ha2
  show Go E M_Mo_quarterPrice 0 0 9 [(0, .ref c0), (1, V a1), (2, V a2)] [] (WX X S) 0 0 K
  replace h : lb_Mo_quarterPrice_9 c0 S go a1 a2 = some q := h
  unfold lb_Mo_quarterPrice_9 at h
  refine g_iloadn (pc := 9) (i0 := 2) (j := 2) (dK D_Mo_quarterPrice 7 rfl) rfl rfl ?_
  refine g_aloadn (pc := 10) (i0 := 0) (j := 0) (dK D_Mo_quarterPrice 8 rfl) rfl rfl ?_
  refine vg_getA (pc := 11) (ci := 11) (f := 0) (dK D_Mo_quarterPrice 9 rfl) q_1442 hc0 (ltK rfl) (ltK rfl) rfl ?_
  refine vg_iconst (pc := 14) (dK D_Mo_quarterPrice 10 rfl) ?_
  refine vg_iaload (pc := 15) (j := 1) (dK D_Mo_quarterPrice 11 rfl) (hw_11_0 hc0) rfl ⟨by decide, by decide⟩ rfl ?_
  refine vg_icmp_ge (pc := 16) (t := 48) (dK D_Mo_quarterPrice 12 rfl) rfl ha2 (g_in _ _ _) (fun hc9 => ?_) (fun hc9 => ?_)
  · replace h := ifP h hc9
    obtain rfl := Option.some.inj h
    refine gL_weak (ls' := [(0, .ref c0), (1, V a1)]) (sbc 0 rfl (sbc 1 rfl sbn)) ?_
    exact hx ha1
  · replace h := ifN h hc9
    refine g_iloadn (pc := 19) (i0 := 1) (j := 1) (dK D_Mo_quarterPrice 13 rfl) rfl rfl ?_
    refine g_aloadn (pc := 20) (i0 := 0) (j := 0) (dK D_Mo_quarterPrice 14 rfl) rfl rfl ?_
    refine g_iloadn (pc := 21) (i0 := 2) (j := 2) (dK D_Mo_quarterPrice 15 rfl) rfl rfl ?_
    refine vg_bipush (pc := 22) (dK D_Mo_quarterPrice 16 rfl) rfl ?_
    refine bnE h (fun p2 e_p2 h => ?_)
    refine vg_cV (pc := 24) (As := [V a2, V 6]) (rest := [V a1]) (mc' := 0) (ms' := 0) (dK D_Mo_quarterPrice 17 rfl) K_Mo_82 (fitK rfl) (ltK rfl) hc0 rfl (leK rfl) (leK rfl) (leK rfl) (tf_Mo_ofAd hc0 ha2 (inRk rfl) e_p2) (kcI (fun h_p2 => ?_))
    refine vg_if_le (pc := 27) (t := 39) (dK D_Mo_quarterPrice 18 rfl) rfl h_p2 (fun hc8 => ?_) (fun hc8 => ?_)
    · replace h := ifP h hc8
      refine vg_iconst (pc := 39) (dK D_Mo_quarterPrice 24 rfl) ?_
      refine vg_iadd (pc := 40) (dK D_Mo_quarterPrice 25 rfl) ?_
      refine nmE h (fun v3 e_v3 h => ?_)
      refine gtop e_v3 ?_
      refine g_istoren (pc := 41) (i0 := 1) (ls2 := [(1, V v3), (0, .ref c0), (2, V a2)]) (dK D_Mo_quarterPrice 26 rfl) rfl (ltK rfl) rfl ?_
      refine nmE h (fun v4 e_v4 h => ?_)
      refine vg_iinc (pc := 42) (j := 2) (a := a2) (z := 1) (ls2 := [(2, V v4), (1, V v3), (0, .ref c0)]) (dK D_Mo_quarterPrice 27 rfl) rfl e_v4 (ltK rfl) rfl ?_
      refine g_goto (pc := 45) (tgt := 9) (dK D_Mo_quarterPrice 28 rfl) rfl ?_
      refine gL_weak (ls' := [(0, .ref c0), (1, V v3), (2, V v4)]) (sbc 2 rfl (sbc 1 rfl (sbc 0 rfl sbn))) ?_
      replace h := ih _ h
      exact h (Vn_in e_v3) (Vn_in e_v4)
    · replace h := ifN h hc8
      refine g_aloadn (pc := 30) (i0 := 0) (j := 0) (dK D_Mo_quarterPrice 19 rfl) rfl rfl ?_
      refine g_iloadn (pc := 31) (i0 := 2) (j := 2) (dK D_Mo_quarterPrice 20 rfl) rfl rfl ?_
      refine vg_iconst (pc := 32) (dK D_Mo_quarterPrice 21 rfl) ?_
      refine bnE h (fun p5 e_p5 h => ?_)
      refine vg_cV (pc := 33) (As := [V a2, V 0]) (rest := [V a1]) (mc' := 0) (ms' := 0) (dK D_Mo_quarterPrice 22 rfl) K_Mo_82 (fitK rfl) (ltK rfl) hc0 rfl (leK rfl) (leK rfl) (leK rfl) (tf_Mo_ofAd hc0 ha2 (inRk rfl) e_p5) (kcI (fun h_p5 => ?_))
      refine g_goto (pc := 36) (tgt := 40) (dK D_Mo_quarterPrice 23 rfl) rfl ?_
      refine vg_iadd (pc := 40) (dK D_Mo_quarterPrice 25 rfl) ?_
      refine nmE h (fun v6 e_v6 h => ?_)
      refine gtop e_v6 ?_
      refine g_istoren (pc := 41) (i0 := 1) (ls2 := [(1, V v6), (0, .ref c0), (2, V a2)]) (dK D_Mo_quarterPrice 26 rfl) rfl (ltK rfl) rfl ?_
      refine nmE h (fun v7 e_v7 h => ?_)
      refine vg_iinc (pc := 42) (j := 2) (a := a2) (z := 1) (ls2 := [(2, V v7), (1, V v6), (0, .ref c0)]) (dK D_Mo_quarterPrice 27 rfl) rfl e_v7 (ltK rfl) rfl ?_
      refine g_goto (pc := 45) (tgt := 9) (dK D_Mo_quarterPrice 28 rfl) rfl ?_
      refine gL_weak (ls' := [(0, .ref c0), (1, V v6), (2, V v7)]) (sbc 2 rfl (sbc 1 rfl (sbc 0 rfl sbn))) ?_
      replace h := ih _ h
      exact h (Vn_in e_v6) (Vn_in e_v7)
def fn_Mo_quarterPrice (c0 : Nat) (S : St) : Option (UInt64 × St) := nm (u S c0 4 0) fun S1 => bnO (lo_Mo_quarterPrice_9 c0 S1 FU (0, 0)) fun p10 => if p10 = 0 then (bnO (fn_Mo_throwsIf c0 1 1 S1) fun p15 => if p15.1 = true then (some (0, p15.2)) else (bnO (fn_Mo_revenueBy c0 (-1) p15.2) fun p17 => if ((FP.ddiv (i_d p17) (i_d p10)) &&& 0x7fffffffffffffff) ≤ 0x7ff0000000000000 then (some ((FP.ddiv (i_d p17) (i_d p10)), p15.2)) else none)) else (bnO (fn_Mo_throwsIf c0 0 1 S1) fun p11 => if p11.1 = true then (some (0, p11.2)) else (bnO (fn_Mo_revenueBy c0 (-1) p11.2) fun p13 => if ((FP.ddiv (i_d p13) (i_d p10)) &&& 0x7fffffffffffffff) ≤ 0x7ff0000000000000 then (some ((FP.ddiv (i_d p13) (i_d p10)), p11.2)) else none))
theorem tf_Mo_quarterPrice {E : EV} {X : XT} {c0 : Nat} (hc0 : HC X 11 c0) {S : St} {q : UInt64 × St} (h : fn_Mo_quarterPrice c0 S = some q) : Ev E M_Mo_quarterPrice [.ref c0] (WX X S) 0 0 (KD X q.1 q.2) := by
  refine Ev.of pn_Mo rfl (leK rfl) ?_
  show Go E M_Mo_quarterPrice 0 0 0 [(0, .ref c0)] [] (WX X S) 0 0 (KD X q.1 q.2)
  unfold fn_Mo_quarterPrice at h
  refine g_aloadn (pc := 0) (i0 := 0) (j := 0) (dK D_Mo_quarterPrice 0 rfl) rfl rfl ?_
  refine vg_iconst (pc := 1) (dK D_Mo_quarterPrice 1 rfl) ?_
  refine nmE h (fun S1 e_S1 h => ?_)
  refine vg_putI (pc := 2) (ci := 11) (f := 4) (z := 0) (dK D_Mo_quarterPrice 2 rfl) q_1446 hc0 (ltK rfl) (ltK rfl) rfl rfl e_S1 ?_
  refine vg_iconst (pc := 5) (dK D_Mo_quarterPrice 3 rfl) ?_
  refine g_istoren (pc := 6) (i0 := 1) (ls2 := [(1, V 0), (0, .ref c0)]) (dK D_Mo_quarterPrice 4 rfl) rfl (ltK rfl) rfl ?_
  refine vg_iconst (pc := 7) (dK D_Mo_quarterPrice 5 rfl) ?_
  refine g_istoren (pc := 8) (i0 := 2) (ls2 := [(2, V 0), (1, V 0), (0, .ref c0)]) (dK D_Mo_quarterPrice 6 rfl) rfl (ltK rfl) rfl ?_
  refine bnE h (fun p10 e_p10 h => ?_)
  refine gL_weak (ls' := [(0, .ref c0), (1, V 0), (2, V 0)]) (sbc 2 rfl (sbc 1 rfl (sbc 0 rfl sbn))) ?_
  refine tl_Mo_quarterPrice_9 hc0 (fun hx1_p10 => ?_) FU (0, 0) e_p10 (inRk rfl) (inRk rfl)
  refine g_aloadn (pc := 48) (i0 := 0) (j := 0) (dK D_Mo_quarterPrice 29 rfl) rfl rfl ?_
  refine g_iloadn (pc := 49) (i0 := 1) (j := 1) (dK D_Mo_quarterPrice 30 rfl) rfl rfl ?_
  refine vg_if_ne (pc := 50) (t := 57) (dK D_Mo_quarterPrice 31 rfl) rfl hx1_p10 (fun hc19 => ?_) (fun hc19 => ?_)
  · replace h := ifN h hc19
    refine vg_iconst (pc := 57) (dK D_Mo_quarterPrice 34 rfl) ?_
    refine vg_iconst (pc := 58) (dK D_Mo_quarterPrice 35 rfl) ?_
    refine bnE h (fun p11 e_p11 h => ?_)
    refine vg_cV (pc := 59) (As := [V 0, V 1]) (rest := []) (mc' := 0) (ms' := 0) (dK D_Mo_quarterPrice 36 rfl) K_Mo_125 (fitK rfl) (ltK rfl) hc0 rfl (leK rfl) (leK rfl) (leK rfl) (tf_Mo_throwsIf hc0 (inRk rfl) (inRk rfl) e_p11) (kcB ?_)
    refine vg_ifB_eq (pc := 62) (b := p11.1) (t := 69) (dK D_Mo_quarterPrice 37 rfl) rfl (fun hc12 => ?_) (fun hc12 => ?_)
    · replace h := ifP h hc12
      refine g_dconst0 (pc := 65) (dK D_Mo_quarterPrice 38 rfl) ?_
      refine g_goto (pc := 66) (tgt := 78) (dK D_Mo_quarterPrice 39 rfl) rfl ?_
      exact g_dreturn (pc := 78) (dK D_Mo_quarterPrice 47 rfl) rfl (leK rfl) (leK rfl) (fun _ => rfl) (by obtain rfl := Option.some.inj h; exact ⟨rfl, rfl⟩)
    · replace h := ifN h hc12
      refine g_aloadn (pc := 69) (i0 := 0) (j := 0) (dK D_Mo_quarterPrice 40 rfl) rfl rfl ?_
      refine vg_iconst (pc := 70) (dK D_Mo_quarterPrice 41 rfl) ?_
      refine bnE h (fun p13 e_p13 h => ?_)
      refine vg_cV (pc := 71) (As := [V (-1)]) (rest := []) (mc' := 0) (ms' := 0) (dK D_Mo_quarterPrice 42 rfl) K_Mo_275 (fitK rfl) (ltK rfl) hc0 rfl (leK rfl) (leK rfl) (leK rfl) (tf_Mo_revenueBy hc0 (inRk rfl) e_p13) (kcI (fun h_p13 => ?_))
      refine vg_i2d (pc := 74) (dK D_Mo_quarterPrice 43 rfl) ?_
      refine g_iloadn (pc := 75) (i0 := 1) (j := 1) (dK D_Mo_quarterPrice 44 rfl) rfl rfl ?_
      refine vg_i2d (pc := 76) (dK D_Mo_quarterPrice 45 rfl) ?_
      refine gdE h (fun hd14 h => ?_)
      refine g_ddiv (pc := 77) (dK D_Mo_quarterPrice 46 rfl) hd14 ?_
      exact g_dreturn (pc := 78) (dK D_Mo_quarterPrice 47 rfl) rfl (leK rfl) (leK rfl) (fun _ => rfl) (by obtain rfl := Option.some.inj h; exact ⟨rfl, rfl⟩)
  · replace h := ifP h hc19
    refine vg_iconst (pc := 53) (dK D_Mo_quarterPrice 32 rfl) ?_
    refine g_goto (pc := 54) (tgt := 58) (dK D_Mo_quarterPrice 33 rfl) rfl ?_
    refine vg_iconst (pc := 58) (dK D_Mo_quarterPrice 35 rfl) ?_
    refine bnE h (fun p15 e_p15 h => ?_)
    refine vg_cV (pc := 59) (As := [V 1, V 1]) (rest := []) (mc' := 0) (ms' := 0) (dK D_Mo_quarterPrice 36 rfl) K_Mo_125 (fitK rfl) (ltK rfl) hc0 rfl (leK rfl) (leK rfl) (leK rfl) (tf_Mo_throwsIf hc0 (inRk rfl) (inRk rfl) e_p15) (kcB ?_)
    refine vg_ifB_eq (pc := 62) (b := p15.1) (t := 69) (dK D_Mo_quarterPrice 37 rfl) rfl (fun hc16 => ?_) (fun hc16 => ?_)
    · replace h := ifP h hc16
      refine g_dconst0 (pc := 65) (dK D_Mo_quarterPrice 38 rfl) ?_
      refine g_goto (pc := 66) (tgt := 78) (dK D_Mo_quarterPrice 39 rfl) rfl ?_
      exact g_dreturn (pc := 78) (dK D_Mo_quarterPrice 47 rfl) rfl (leK rfl) (leK rfl) (fun _ => rfl) (by obtain rfl := Option.some.inj h; exact ⟨rfl, rfl⟩)
    · replace h := ifN h hc16
      refine g_aloadn (pc := 69) (i0 := 0) (j := 0) (dK D_Mo_quarterPrice 40 rfl) rfl rfl ?_
      refine vg_iconst (pc := 70) (dK D_Mo_quarterPrice 41 rfl) ?_
      refine bnE h (fun p17 e_p17 h => ?_)
      refine vg_cV (pc := 71) (As := [V (-1)]) (rest := []) (mc' := 0) (ms' := 0) (dK D_Mo_quarterPrice 42 rfl) K_Mo_275 (fitK rfl) (ltK rfl) hc0 rfl (leK rfl) (leK rfl) (leK rfl) (tf_Mo_revenueBy hc0 (inRk rfl) e_p17) (kcI (fun h_p17 => ?_))
      refine vg_i2d (pc := 74) (dK D_Mo_quarterPrice 43 rfl) ?_
      refine g_iloadn (pc := 75) (i0 := 1) (j := 1) (dK D_Mo_quarterPrice 44 rfl) rfl rfl ?_
      refine vg_i2d (pc := 76) (dK D_Mo_quarterPrice 45 rfl) ?_
      refine gdE h (fun hd18 h => ?_)
      refine g_ddiv (pc := 77) (dK D_Mo_quarterPrice 46 rfl) hd18 ?_
      exact g_dreturn (pc := 78) (dK D_Mo_quarterPrice 47 rfl) rfl (leK rfl) (leK rfl) (fun _ => rfl) (by obtain rfl := Option.some.inj h; exact ⟨rfl, rfl⟩)
def fn_Mo_write (c0 : Nat) (a1 : Int) (S : St) : Option (St) := if 0 ≤ (g S c0 12) ∧ (g S c0 12) < 60 then (nm (u S (tgt c0 11) (((g S c0 12)).toNat) a1) fun S2 => nm (u S2 c0 12 ((g S2 c0 12) + 1)) fun S3 => some S3) else none
theorem tf_Mo_write {E : EV} {X : XT} {c0 : Nat} (hc0 : HC X 11 c0) {a1 : Int} (ha1 : inR a1) {S : St} {q : St} (h : fn_Mo_write c0 a1 S = some q) : Ev E M_Mo_write [.ref c0, V a1] (WX X S) 0 0 (KU X q) := by
  refine Ev.of pn_Mo rfl (leK rfl) ?_
  show Go E M_Mo_write 0 0 0 [(0, .ref c0), (1, V a1)] [] (WX X S) 0 0 (KU X q)
  unfold fn_Mo_write at h
  refine g_aloadn (pc := 0) (i0 := 0) (j := 0) (dK D_Mo_write 0 rfl) rfl rfl ?_
  refine vg_getA (pc := 1) (ci := 11) (f := 11) (dK D_Mo_write 1 rfl) q_1453 hc0 (ltK rfl) (ltK rfl) rfl ?_
  refine g_aloadn (pc := 4) (i0 := 0) (j := 0) (dK D_Mo_write 2 rfl) rfl rfl ?_
  refine vg_getI (pc := 5) (ci := 11) (f := 12) (dK D_Mo_write 3 rfl) q_1454 hc0 (ltK rfl) (ltK rfl) rfl ?_
  refine g_iloadn (pc := 8) (i0 := 1) (j := 1) (dK D_Mo_write 4 rfl) rfl rfl ?_
  refine gdE h (fun hi1 h => ?_)
  refine nmE h (fun S2 e_S2 h => ?_)
  refine vg_iastore (pc := 9) (z := a1) (dK D_Mo_write 5 rfl) (hw_11_11 hc0) rfl hi1 rfl e_S2 ?_
  refine g_aloadn (pc := 10) (i0 := 0) (j := 0) (dK D_Mo_write 6 rfl) rfl rfl ?_
  refine g_dup (pc := 11) (dK D_Mo_write 7 rfl) rfl ?_
  refine vg_getI (pc := 12) (ci := 11) (f := 12) (dK D_Mo_write 8 rfl) q_1454 hc0 (ltK rfl) (ltK rfl) rfl ?_
  refine vg_iconst (pc := 15) (dK D_Mo_write 9 rfl) ?_
  refine vg_iadd (pc := 16) (dK D_Mo_write 10 rfl) ?_
  refine nmE h (fun S3 e_S3 h => ?_)
  refine vg_putI (pc := 17) (ci := 11) (f := 12) (z := ((g S2 c0 12) + 1)) (dK D_Mo_write 11 rfl) q_1454 hc0 (ltK rfl) (ltK rfl) rfl rfl e_S3 ?_
  exact g_return (pc := 20) (dK D_Mo_write 12 rfl) rfl (leK rfl) (leK rfl) (fun _ => rfl) (by obtain rfl := Option.some.inj h; exact ⟨rfl, rfl⟩)
def fn_Mo_writeItem (c0 : Nat) (a1 : Int) (a2 : Int) (S : St) : Option (St) := if (g S c0 12) ≤ 0 then (bnO (fn_Mo_write c0 a1 S) fun p1 => if a2 ≤ 9 then (nm (wr (48 + (a2.tmod 10))) fun v2 => bnO (fn_Mo_write c0 v2 p1) fun p3 => some p3) else (nm (wr (48 + (a2.tdiv 10))) fun v4 => bnO (fn_Mo_write c0 v4 p1) fun p5 => nm (wr (48 + (a2.tmod 10))) fun v6 => bnO (fn_Mo_write c0 v6 p5) fun p7 => some p7)) else (bnO (fn_Mo_write c0 32 S) fun p9 => bnO (fn_Mo_write c0 a1 p9) fun p10 => if a2 ≤ 9 then (nm (wr (48 + (a2.tmod 10))) fun v11 => bnO (fn_Mo_write c0 v11 p10) fun p12 => some p12) else (nm (wr (48 + (a2.tdiv 10))) fun v13 => bnO (fn_Mo_write c0 v13 p10) fun p14 => nm (wr (48 + (a2.tmod 10))) fun v15 => bnO (fn_Mo_write c0 v15 p14) fun p16 => some p16))
set_option maxHeartbeats 20000000 in
theorem tf_Mo_writeItem {E : EV} {X : XT} {c0 : Nat} (hc0 : HC X 11 c0) {a1 : Int} (ha1 : inR a1) {a2 : Int} (ha2 : inR a2) {S : St} {q : St} (h : fn_Mo_writeItem c0 a1 a2 S = some q) : Ev E M_Mo_writeItem [.ref c0, V a1, V a2] (WX X S) 0 0 (KU X q) := by
  refine Ev.of pn_Mo rfl (leK rfl) ?_
  show Go E M_Mo_writeItem 0 0 0 [(0, .ref c0), (1, V a1), (2, V a2)] [] (WX X S) 0 0 (KU X q)
  unfold fn_Mo_writeItem at h
  refine g_aloadn (pc := 0) (i0 := 0) (j := 0) (dK D_Mo_writeItem 0 rfl) rfl rfl ?_
  refine vg_getI (pc := 1) (ci := 11) (f := 12) (dK D_Mo_writeItem 1 rfl) q_1454 hc0 (ltK rfl) (ltK rfl) rfl ?_
  refine vg_if_le (pc := 4) (t := 13) (dK D_Mo_writeItem 2 rfl) rfl (g_in _ _ _) (fun hc18 => ?_) (fun hc18 => ?_)
  · replace h := ifP h hc18
    refine g_aloadn (pc := 13) (i0 := 0) (j := 0) (dK D_Mo_writeItem 6 rfl) rfl rfl ?_
    refine g_iloadn (pc := 14) (i0 := 1) (j := 1) (dK D_Mo_writeItem 7 rfl) rfl rfl ?_
    refine bnE h (fun p1 e_p1 h => ?_)
    refine vg_cV (pc := 15) (As := [V a1]) (rest := []) (mc' := 0) (ms' := 0) (dK D_Mo_writeItem 8 rfl) K_Mo_298 (fitK rfl) (ltK rfl) hc0 rfl (leK rfl) (leK rfl) (leK rfl) (tf_Mo_write hc0 ha1 e_p1) (kcU ?_)
    refine g_iloadn (pc := 18) (i0 := 2) (j := 2) (dK D_Mo_writeItem 9 rfl) rfl rfl ?_
    refine vg_bipush (pc := 19) (dK D_Mo_writeItem 10 rfl) rfl ?_
    refine vg_icmp_le (pc := 21) (t := 35) (dK D_Mo_writeItem 11 rfl) rfl ha2 (inRk rfl) (fun hc8 => ?_) (fun hc8 => ?_)
    · replace h := ifP h hc8
      refine g_aloadn (pc := 35) (i0 := 0) (j := 0) (dK D_Mo_writeItem 19 rfl) rfl rfl ?_
      refine vg_bipush (pc := 36) (dK D_Mo_writeItem 20 rfl) rfl ?_
      refine g_iloadn (pc := 38) (i0 := 2) (j := 2) (dK D_Mo_writeItem 21 rfl) rfl rfl ?_
      refine vg_bipush (pc := 39) (dK D_Mo_writeItem 22 rfl) rfl ?_
      refine vg_irem (pc := 41) (dK D_Mo_writeItem 23 rfl) ha2 (inRk rfl) (by decide) ?_
      refine vg_iadd (pc := 42) (dK D_Mo_writeItem 24 rfl) ?_
      refine nmE h (fun v2 e_v2 h => ?_)
      refine gtop e_v2 ?_
      refine bnE h (fun p3 e_p3 h => ?_)
      refine vg_cV (pc := 43) (As := [V v2]) (rest := []) (mc' := 0) (ms' := 0) (dK D_Mo_writeItem 25 rfl) K_Mo_298 (fitK rfl) (ltK rfl) hc0 rfl (leK rfl) (leK rfl) (leK rfl) (tf_Mo_write hc0 (Vn_in e_v2) e_p3) (kcU ?_)
      exact g_return (pc := 46) (dK D_Mo_writeItem 26 rfl) rfl (leK rfl) (leK rfl) (fun _ => rfl) (by obtain rfl := Option.some.inj h; exact ⟨rfl, rfl⟩)
    · replace h := ifN h hc8
      refine g_aloadn (pc := 24) (i0 := 0) (j := 0) (dK D_Mo_writeItem 12 rfl) rfl rfl ?_
      refine vg_bipush (pc := 25) (dK D_Mo_writeItem 13 rfl) rfl ?_
      refine g_iloadn (pc := 27) (i0 := 2) (j := 2) (dK D_Mo_writeItem 14 rfl) rfl rfl ?_
      refine vg_bipush (pc := 28) (dK D_Mo_writeItem 15 rfl) rfl ?_
      refine vg_idiv (pc := 30) (dK D_Mo_writeItem 16 rfl) ha2 (inRk rfl) (by decide) ?_
      refine vg_iadd (pc := 31) (dK D_Mo_writeItem 17 rfl) ?_
      refine nmE h (fun v4 e_v4 h => ?_)
      refine gtop e_v4 ?_
      refine bnE h (fun p5 e_p5 h => ?_)
      refine vg_cV (pc := 32) (As := [V v4]) (rest := []) (mc' := 0) (ms' := 0) (dK D_Mo_writeItem 18 rfl) K_Mo_298 (fitK rfl) (ltK rfl) hc0 rfl (leK rfl) (leK rfl) (leK rfl) (tf_Mo_write hc0 (Vn_in e_v4) e_p5) (kcU ?_)
      refine g_aloadn (pc := 35) (i0 := 0) (j := 0) (dK D_Mo_writeItem 19 rfl) rfl rfl ?_
      refine vg_bipush (pc := 36) (dK D_Mo_writeItem 20 rfl) rfl ?_
      refine g_iloadn (pc := 38) (i0 := 2) (j := 2) (dK D_Mo_writeItem 21 rfl) rfl rfl ?_
      refine vg_bipush (pc := 39) (dK D_Mo_writeItem 22 rfl) rfl ?_
      refine vg_irem (pc := 41) (dK D_Mo_writeItem 23 rfl) ha2 (inRk rfl) (by decide) ?_
      refine vg_iadd (pc := 42) (dK D_Mo_writeItem 24 rfl) ?_
      refine nmE h (fun v6 e_v6 h => ?_)
      refine gtop e_v6 ?_
      refine bnE h (fun p7 e_p7 h => ?_)
      refine vg_cV (pc := 43) (As := [V v6]) (rest := []) (mc' := 0) (ms' := 0) (dK D_Mo_writeItem 25 rfl) K_Mo_298 (fitK rfl) (ltK rfl) hc0 rfl (leK rfl) (leK rfl) (leK rfl) (tf_Mo_write hc0 (Vn_in e_v6) e_p7) (kcU ?_)
      exact g_return (pc := 46) (dK D_Mo_writeItem 26 rfl) rfl (leK rfl) (leK rfl) (fun _ => rfl) (by obtain rfl := Option.some.inj h; exact ⟨rfl, rfl⟩)
  · replace h := ifN h hc18
    refine g_aloadn (pc := 7) (i0 := 0) (j := 0) (dK D_Mo_writeItem 3 rfl) rfl rfl ?_
    refine vg_bipush (pc := 8) (dK D_Mo_writeItem 4 rfl) rfl ?_
    refine bnE h (fun p9 e_p9 h => ?_)
    refine vg_cV (pc := 10) (As := [V 32]) (rest := []) (mc' := 0) (ms' := 0) (dK D_Mo_writeItem 5 rfl) K_Mo_298 (fitK rfl) (ltK rfl) hc0 rfl (leK rfl) (leK rfl) (leK rfl) (tf_Mo_write hc0 (inRk rfl) e_p9) (kcU ?_)
    refine g_aloadn (pc := 13) (i0 := 0) (j := 0) (dK D_Mo_writeItem 6 rfl) rfl rfl ?_
    refine g_iloadn (pc := 14) (i0 := 1) (j := 1) (dK D_Mo_writeItem 7 rfl) rfl rfl ?_
    refine bnE h (fun p10 e_p10 h => ?_)
    refine vg_cV (pc := 15) (As := [V a1]) (rest := []) (mc' := 0) (ms' := 0) (dK D_Mo_writeItem 8 rfl) K_Mo_298 (fitK rfl) (ltK rfl) hc0 rfl (leK rfl) (leK rfl) (leK rfl) (tf_Mo_write hc0 ha1 e_p10) (kcU ?_)
    refine g_iloadn (pc := 18) (i0 := 2) (j := 2) (dK D_Mo_writeItem 9 rfl) rfl rfl ?_
    refine vg_bipush (pc := 19) (dK D_Mo_writeItem 10 rfl) rfl ?_
    refine vg_icmp_le (pc := 21) (t := 35) (dK D_Mo_writeItem 11 rfl) rfl ha2 (inRk rfl) (fun hc17 => ?_) (fun hc17 => ?_)
    · replace h := ifP h hc17
      refine g_aloadn (pc := 35) (i0 := 0) (j := 0) (dK D_Mo_writeItem 19 rfl) rfl rfl ?_
      refine vg_bipush (pc := 36) (dK D_Mo_writeItem 20 rfl) rfl ?_
      refine g_iloadn (pc := 38) (i0 := 2) (j := 2) (dK D_Mo_writeItem 21 rfl) rfl rfl ?_
      refine vg_bipush (pc := 39) (dK D_Mo_writeItem 22 rfl) rfl ?_
      refine vg_irem (pc := 41) (dK D_Mo_writeItem 23 rfl) ha2 (inRk rfl) (by decide) ?_
      refine vg_iadd (pc := 42) (dK D_Mo_writeItem 24 rfl) ?_
      refine nmE h (fun v11 e_v11 h => ?_)
      refine gtop e_v11 ?_
      refine bnE h (fun p12 e_p12 h => ?_)
      refine vg_cV (pc := 43) (As := [V v11]) (rest := []) (mc' := 0) (ms' := 0) (dK D_Mo_writeItem 25 rfl) K_Mo_298 (fitK rfl) (ltK rfl) hc0 rfl (leK rfl) (leK rfl) (leK rfl) (tf_Mo_write hc0 (Vn_in e_v11) e_p12) (kcU ?_)
      exact g_return (pc := 46) (dK D_Mo_writeItem 26 rfl) rfl (leK rfl) (leK rfl) (fun _ => rfl) (by obtain rfl := Option.some.inj h; exact ⟨rfl, rfl⟩)
    · replace h := ifN h hc17
      refine g_aloadn (pc := 24) (i0 := 0) (j := 0) (dK D_Mo_writeItem 12 rfl) rfl rfl ?_
      refine vg_bipush (pc := 25) (dK D_Mo_writeItem 13 rfl) rfl ?_
      refine g_iloadn (pc := 27) (i0 := 2) (j := 2) (dK D_Mo_writeItem 14 rfl) rfl rfl ?_
      refine vg_bipush (pc := 28) (dK D_Mo_writeItem 15 rfl) rfl ?_
      refine vg_idiv (pc := 30) (dK D_Mo_writeItem 16 rfl) ha2 (inRk rfl) (by decide) ?_
      refine vg_iadd (pc := 31) (dK D_Mo_writeItem 17 rfl) ?_
      refine nmE h (fun v13 e_v13 h => ?_)
      refine gtop e_v13 ?_
      refine bnE h (fun p14 e_p14 h => ?_)
      refine vg_cV (pc := 32) (As := [V v13]) (rest := []) (mc' := 0) (ms' := 0) (dK D_Mo_writeItem 18 rfl) K_Mo_298 (fitK rfl) (ltK rfl) hc0 rfl (leK rfl) (leK rfl) (leK rfl) (tf_Mo_write hc0 (Vn_in e_v13) e_p14) (kcU ?_)
      refine g_aloadn (pc := 35) (i0 := 0) (j := 0) (dK D_Mo_writeItem 19 rfl) rfl rfl ?_
      refine vg_bipush (pc := 36) (dK D_Mo_writeItem 20 rfl) rfl ?_
      refine g_iloadn (pc := 38) (i0 := 2) (j := 2) (dK D_Mo_writeItem 21 rfl) rfl rfl ?_
      refine vg_bipush (pc := 39) (dK D_Mo_writeItem 22 rfl) rfl ?_
      refine vg_irem (pc := 41) (dK D_Mo_writeItem 23 rfl) ha2 (inRk rfl) (by decide) ?_
      refine vg_iadd (pc := 42) (dK D_Mo_writeItem 24 rfl) ?_
      refine nmE h (fun v15 e_v15 h => ?_)
      refine gtop e_v15 ?_
      refine bnE h (fun p16 e_p16 h => ?_)
      refine vg_cV (pc := 43) (As := [V v15]) (rest := []) (mc' := 0) (ms' := 0) (dK D_Mo_writeItem 25 rfl) K_Mo_298 (fitK rfl) (ltK rfl) hc0 rfl (leK rfl) (leK rfl) (leK rfl) (tf_Mo_write hc0 (Vn_in e_v15) e_p16) (kcU ?_)
      exact g_return (pc := 46) (dK D_Mo_writeItem 26 rfl) rfl (leK rfl) (leK rfl) (fun _ => rfl) (by obtain rfl := Option.some.inj h; exact ⟨rfl, rfl⟩)
def lb_Mo_describe_57 (c0 : Nat) (a1 : Int) (go : Int × St → Option (St)) (a2 : Int) (S : St) : Option (St) := if (g S (tgt c0 0) 1) ≤ a2 then (some S) else (bnO (fn_Mo_ofAd c0 a2 6 S) fun p8 => if p8 = a1 then (bnO (fn_Mo_writeItem c0 97 a2 S) fun p10 => nm (wr (a2 + 1)) fun v11 => go (v11, p10)) else (nm (wr (a2 + 1)) fun v9 => go (v9, S)))
def lo_Mo_describe_57 (c0 : Nat) (a1 : Int) : Nat → Int × St → Option (St) := lp fun go p => lb_Mo_describe_57 c0 a1 go p.1 p.2
theorem tl_Mo_describe_57 {E : EV} {X : XT} {c0 : Nat} (hc0 : HC X 11 c0) {a1 : Int} (ha1 : inR a1) {K : RK → PS → Prop} {q : St} (hx : Go E M_Mo_describe 0 0 91 [(0, .ref c0), (1, V a1)] [] (WX X q) 0 0 K) : ∀ n a, lo_Mo_describe_57 c0 a1 n a = some q → inR a.1 → Go E M_Mo_describe 0 0 57 [(0, .ref c0), (1, V a1), (2, V a.1)] [] (WX X a.2) 0 0 K := by
  refine lp_ind (P := fun a : Int × St => inR a.1 → Go E M_Mo_describe 0 0 57 [(0, .ref c0), (1, V a1), (2, V a.1)] [] (WX X a.2) 0 0 K) (fun go ih a h => ?_)
  obtain ⟨a2, S⟩ := a
  intro ha2
  show Go E M_Mo_describe 0 0 57 [(0, .ref c0), (1, V a1), (2, V a2)] [] (WX X S) 0 0 K
  replace h : lb_Mo_describe_57 c0 a1 go a2 S = some q := h
  unfold lb_Mo_describe_57 at h
  refine g_iloadn (pc := 57) (i0 := 2) (j := 2) (dK D_Mo_describe_0 34 rfl) rfl rfl ?_
  refine g_aloadn (pc := 58) (i0 := 0) (j := 0) (dK D_Mo_describe_0 35 rfl) rfl rfl ?_
  refine vg_getA (pc := 59) (ci := 11) (f := 0) (dK D_Mo_describe_0 36 rfl) q_1442 hc0 (ltK rfl) (ltK rfl) rfl ?_
  refine vg_iconst (pc := 62) (dK D_Mo_describe_0 37 rfl) ?_
  refine vg_iaload (pc := 63) (j := 1) (dK D_Mo_describe_0 38 rfl) (hw_11_0 hc0) rfl ⟨by decide, by decide⟩ rfl ?_
  refine vg_icmp_ge (pc := 64) (t := 91) (dK D_Mo_describe_0 39 rfl) rfl ha2 (g_in _ _ _) (fun hc13 => ?_) (fun hc13 => ?_)
  · replace h := ifP h hc13
    obtain rfl := Option.some.inj h
    refine gL_weak (ls' := [(0, .ref c0), (1, V a1)]) (sbc 0 rfl (sbc 1 rfl sbn)) ?_
    exact hx 
  · replace h := ifN h hc13
    refine g_aloadn (pc := 67) (i0 := 0) (j := 0) (dK D_Mo_describe_0 40 rfl) rfl rfl ?_
    refine g_iloadn (pc := 68) (i0 := 2) (j := 2) (dK D_Mo_describe_0 41 rfl) rfl rfl ?_
    refine vg_bipush (pc := 69) (dK D_Mo_describe_0 42 rfl) rfl ?_
    refine bnE h (fun p8 e_p8 h => ?_)
    refine vg_cV (pc := 71) (As := [V a2, V 6]) (rest := []) (mc' := 0) (ms' := 0) (dK D_Mo_describe_0 43 rfl) K_Mo_82 (fitK rfl) (ltK rfl) hc0 rfl (leK rfl) (leK rfl) (leK rfl) (tf_Mo_ofAd hc0 ha2 (inRk rfl) e_p8) (kcI (fun h_p8 => ?_))
    refine g_iloadn (pc := 74) (i0 := 1) (j := 1) (dK D_Mo_describe_0 44 rfl) rfl rfl ?_
    refine vg_icmp_ne (pc := 75) (t := 85) (dK D_Mo_describe_0 45 rfl) rfl h_p8 ha1 (fun hc12 => ?_) (fun hc12 => ?_)
    · replace h := ifN h hc12
      refine nmE h (fun v9 e_v9 h => ?_)
      refine vg_iinc (pc := 85) (j := 2) (a := a2) (z := 1) (ls2 := [(2, V v9), (0, .ref c0), (1, V a1)]) (dK D_Mo_describe_1 0 rfl) rfl e_v9 (ltK rfl) rfl ?_
      refine g_goto (pc := 88) (tgt := 57) (dK D_Mo_describe_1 1 rfl) rfl ?_
      refine gL_weak (ls' := [(0, .ref c0), (1, V a1), (2, V v9)]) (sbc 1 rfl (sbc 2 rfl (sbc 0 rfl sbn))) ?_
      replace h := ih _ h
      exact h (Vn_in e_v9)
    · replace h := ifP h hc12
      refine g_aloadn (pc := 78) (i0 := 0) (j := 0) (dK D_Mo_describe_0 46 rfl) rfl rfl ?_
      refine vg_bipush (pc := 79) (dK D_Mo_describe_0 47 rfl) rfl ?_
      refine g_iloadn (pc := 81) (i0 := 2) (j := 2) (dK D_Mo_describe_0 48 rfl) rfl rfl ?_
      refine bnE h (fun p10 e_p10 h => ?_)
      refine vg_cV (pc := 82) (As := [V 97, V a2]) (rest := []) (mc' := 0) (ms' := 0) (dK D_Mo_describe_0 49 rfl) K_Mo_301 (fitK rfl) (ltK rfl) hc0 rfl (leK rfl) (leK rfl) (leK rfl) (tf_Mo_writeItem hc0 (inRk rfl) ha2 e_p10) (kcU ?_)
      refine nmE h (fun v11 e_v11 h => ?_)
      refine vg_iinc (pc := 85) (j := 2) (a := a2) (z := 1) (ls2 := [(2, V v11), (0, .ref c0), (1, V a1)]) (dK D_Mo_describe_1 0 rfl) rfl e_v11 (ltK rfl) rfl ?_
      refine g_goto (pc := 88) (tgt := 57) (dK D_Mo_describe_1 1 rfl) rfl ?_
      refine gL_weak (ls' := [(0, .ref c0), (1, V a1), (2, V v11)]) (sbc 1 rfl (sbc 2 rfl (sbc 0 rfl sbn))) ?_
      replace h := ih _ h
      exact h (Vn_in e_v11)
def lb_Mo_describe_93 (c0 : Nat) (a1 : Int) (go : Int × St → Option (St)) (a2 : Int) (S : St) : Option (St) := if (g S (tgt c0 0) 3) ≤ a2 then (some S) else (bnO (fn_Mo_ofStandby c0 a2 1 S) fun p15 => if p15 = a1 then (bnO (fn_Mo_writeItem c0 98 a2 S) fun p17 => nm (wr (a2 + 1)) fun v18 => go (v18, p17)) else (nm (wr (a2 + 1)) fun v16 => go (v16, S)))
def lo_Mo_describe_93 (c0 : Nat) (a1 : Int) : Nat → Int × St → Option (St) := lp fun go p => lb_Mo_describe_93 c0 a1 go p.1 p.2
theorem tl_Mo_describe_93 {E : EV} {X : XT} {c0 : Nat} (hc0 : HC X 11 c0) {a1 : Int} (ha1 : inR a1) {K : RK → PS → Prop} {q : St} (hx : Go E M_Mo_describe 0 0 126 [(0, .ref c0), (1, V a1)] [] (WX X q) 0 0 K) : ∀ n a, lo_Mo_describe_93 c0 a1 n a = some q → inR a.1 → Go E M_Mo_describe 0 0 93 [(0, .ref c0), (1, V a1), (2, V a.1)] [] (WX X a.2) 0 0 K := by
  refine lp_ind (P := fun a : Int × St => inR a.1 → Go E M_Mo_describe 0 0 93 [(0, .ref c0), (1, V a1), (2, V a.1)] [] (WX X a.2) 0 0 K) (fun go ih a h => ?_)
  obtain ⟨a2, S⟩ := a
  intro ha2
  show Go E M_Mo_describe 0 0 93 [(0, .ref c0), (1, V a1), (2, V a2)] [] (WX X S) 0 0 K
  replace h : lb_Mo_describe_93 c0 a1 go a2 S = some q := h
  unfold lb_Mo_describe_93 at h
  refine g_iloadn (pc := 93) (i0 := 2) (j := 2) (dK D_Mo_describe_1 4 rfl) rfl rfl ?_
  refine g_aloadn (pc := 94) (i0 := 0) (j := 0) (dK D_Mo_describe_1 5 rfl) rfl rfl ?_
  refine vg_getA (pc := 95) (ci := 11) (f := 0) (dK D_Mo_describe_1 6 rfl) q_1442 hc0 (ltK rfl) (ltK rfl) rfl ?_
  refine vg_iconst (pc := 98) (dK D_Mo_describe_1 7 rfl) ?_
  refine vg_iaload (pc := 99) (j := 3) (dK D_Mo_describe_1 8 rfl) (hw_11_0 hc0) rfl ⟨by decide, by decide⟩ rfl ?_
  refine vg_icmp_ge (pc := 100) (t := 126) (dK D_Mo_describe_1 9 rfl) rfl ha2 (g_in _ _ _) (fun hc20 => ?_) (fun hc20 => ?_)
  · replace h := ifP h hc20
    obtain rfl := Option.some.inj h
    refine gL_weak (ls' := [(0, .ref c0), (1, V a1)]) (sbc 0 rfl (sbc 1 rfl sbn)) ?_
    exact hx 
  · replace h := ifN h hc20
    refine g_aloadn (pc := 103) (i0 := 0) (j := 0) (dK D_Mo_describe_1 10 rfl) rfl rfl ?_
    refine g_iloadn (pc := 104) (i0 := 2) (j := 2) (dK D_Mo_describe_1 11 rfl) rfl rfl ?_
    refine vg_iconst (pc := 105) (dK D_Mo_describe_1 12 rfl) ?_
    refine bnE h (fun p15 e_p15 h => ?_)
    refine vg_cV (pc := 106) (As := [V a2, V 1]) (rest := []) (mc' := 0) (ms' := 0) (dK D_Mo_describe_1 13 rfl) K_Mo_92 (fitK rfl) (ltK rfl) hc0 rfl (leK rfl) (leK rfl) (leK rfl) (tf_Mo_ofStandby hc0 ha2 (inRk rfl) e_p15) (kcI (fun h_p15 => ?_))
    refine g_iloadn (pc := 109) (i0 := 1) (j := 1) (dK D_Mo_describe_1 14 rfl) rfl rfl ?_
    refine vg_icmp_ne (pc := 110) (t := 120) (dK D_Mo_describe_1 15 rfl) rfl h_p15 ha1 (fun hc19 => ?_) (fun hc19 => ?_)
    · replace h := ifN h hc19
      refine nmE h (fun v16 e_v16 h => ?_)
      refine vg_iinc (pc := 120) (j := 2) (a := a2) (z := 1) (ls2 := [(2, V v16), (0, .ref c0), (1, V a1)]) (dK D_Mo_describe_1 20 rfl) rfl e_v16 (ltK rfl) rfl ?_
      refine g_goto (pc := 123) (tgt := 93) (dK D_Mo_describe_1 21 rfl) rfl ?_
      refine gL_weak (ls' := [(0, .ref c0), (1, V a1), (2, V v16)]) (sbc 1 rfl (sbc 2 rfl (sbc 0 rfl sbn))) ?_
      replace h := ih _ h
      exact h (Vn_in e_v16)
    · replace h := ifP h hc19
      refine g_aloadn (pc := 113) (i0 := 0) (j := 0) (dK D_Mo_describe_1 16 rfl) rfl rfl ?_
      refine vg_bipush (pc := 114) (dK D_Mo_describe_1 17 rfl) rfl ?_
      refine g_iloadn (pc := 116) (i0 := 2) (j := 2) (dK D_Mo_describe_1 18 rfl) rfl rfl ?_
      refine bnE h (fun p17 e_p17 h => ?_)
      refine vg_cV (pc := 117) (As := [V 98, V a2]) (rest := []) (mc' := 0) (ms' := 0) (dK D_Mo_describe_1 19 rfl) K_Mo_301 (fitK rfl) (ltK rfl) hc0 rfl (leK rfl) (leK rfl) (leK rfl) (tf_Mo_writeItem hc0 (inRk rfl) ha2 e_p17) (kcU ?_)
      refine nmE h (fun v18 e_v18 h => ?_)
      refine vg_iinc (pc := 120) (j := 2) (a := a2) (z := 1) (ls2 := [(2, V v18), (0, .ref c0), (1, V a1)]) (dK D_Mo_describe_1 20 rfl) rfl e_v18 (ltK rfl) rfl ?_
      refine g_goto (pc := 123) (tgt := 93) (dK D_Mo_describe_1 21 rfl) rfl ?_
      refine gL_weak (ls' := [(0, .ref c0), (1, V a1), (2, V v18)]) (sbc 1 rfl (sbc 2 rfl (sbc 0 rfl sbn))) ?_
      replace h := ih _ h
      exact h (Vn_in e_v18)
def jf_Mo_describe_19 (c0 : Nat) (a1 : Int) (t0 : Int) (d1 : Nat) (S : St) : Option (Int × St) := bnO (fn_Mo_throwsIf d1 t0 1 S) fun p4 => if p4.1 = true then (some (0, p4.2)) else (nm (u p4.2 c0 12 0) fun S6 => bnO (fn_Mo_storyOn c0 a1 (-1) S6) fun p7 => if p7 = (-1) then (bnO (lo_Mo_describe_57 c0 a1 FU (0, S6)) fun p14 => bnO (lo_Mo_describe_93 c0 a1 FU (0, p14)) fun p21 => bnO (fn_Mo_left c0 a1 p21) fun p22 => if p22 ≤ 0 then (some ((g p21 c0 12), p21)) else (bnO (fn_Mo_left c0 a1 p21) fun p23 => bnO (fn_Mo_writeItem c0 43 p23 p21) fun p24 => some ((g p24 c0 12), p24))) else (bnO (fn_Mo_storyOn c0 a1 (-1) S6) fun p26 => bnO (fn_Mo_writeItem c0 115 p26 S6) fun p27 => bnO (lo_Mo_describe_57 c0 a1 FU (0, p27)) fun p28 => bnO (lo_Mo_describe_93 c0 a1 FU (0, p28)) fun p29 => bnO (fn_Mo_left c0 a1 p29) fun p30 => if p30 ≤ 0 then (some ((g p29 c0 12), p29)) else (bnO (fn_Mo_left c0 a1 p29) fun p31 => bnO (fn_Mo_writeItem c0 43 p31 p29) fun p32 => some ((g p32 c0 12), p32))))
set_option maxHeartbeats 20000000 in
theorem tj_Mo_describe_19 {E : EV} {X : XT} {c0 : Nat} (hc0 : HC X 11 c0) {a1 : Int} (ha1 : inR a1) {t0 : Int} (ht0 : inR t0) {d1 : Nat} (hd1 : HC X 11 d1) {S : St} {q : Int × St} (h : jf_Mo_describe_19 c0 a1 t0 d1 S = some q) : Go E M_Mo_describe 0 0 19 [(0, .ref c0), (1, V a1)] [V t0, .ref d1] (WX X S) 0 0 (KI X q.1 q.2) := by
  unfold jf_Mo_describe_19 at h
  refine vg_iconst (pc := 19) (dK D_Mo_describe_0 11 rfl) ?_
  refine bnE h (fun p4 e_p4 h => ?_)
  refine vg_cV (pc := 20) (As := [V t0, V 1]) (rest := []) (mc' := 0) (ms' := 0) (dK D_Mo_describe_0 12 rfl) K_Mo_125 (fitK rfl) (ltK rfl) hd1 rfl (leK rfl) (leK rfl) (leK rfl) (tf_Mo_throwsIf hd1 ht0 (inRk rfl) e_p4) (kcB ?_)
  refine vg_ifB_eq (pc := 23) (b := p4.1) (t := 28) (dK D_Mo_describe_0 13 rfl) rfl (fun hc5 => ?_) (fun hc5 => ?_)
  · replace h := ifP h hc5
    refine vg_iconst (pc := 26) (dK D_Mo_describe_0 14 rfl) ?_
    exact vg_iretI (pc := 27) (r := 0) (dK D_Mo_describe_0 15 rfl) rfl (leK rfl) (leK rfl) (fun _ => rfl) (by obtain rfl := Option.some.inj h; exact ⟨rfl, (inRk rfl), rfl⟩)
  · replace h := ifN h hc5
    refine g_aloadn (pc := 28) (i0 := 0) (j := 0) (dK D_Mo_describe_0 16 rfl) rfl rfl ?_
    refine vg_iconst (pc := 29) (dK D_Mo_describe_0 17 rfl) ?_
    refine nmE h (fun S6 e_S6 h => ?_)
    refine vg_putI (pc := 30) (ci := 11) (f := 12) (z := 0) (dK D_Mo_describe_0 18 rfl) q_1454 hc0 (ltK rfl) (ltK rfl) rfl rfl e_S6 ?_
    refine g_aloadn (pc := 33) (i0 := 0) (j := 0) (dK D_Mo_describe_0 19 rfl) rfl rfl ?_
    refine g_iloadn (pc := 34) (i0 := 1) (j := 1) (dK D_Mo_describe_0 20 rfl) rfl rfl ?_
    refine vg_iconst (pc := 35) (dK D_Mo_describe_0 21 rfl) ?_
    refine bnE h (fun p7 e_p7 h => ?_)
    refine vg_cV (pc := 36) (As := [V a1, V (-1)]) (rest := []) (mc' := 0) (ms' := 0) (dK D_Mo_describe_0 22 rfl) K_Mo_95 (fitK rfl) (ltK rfl) hc0 rfl (leK rfl) (leK rfl) (leK rfl) (tf_Mo_storyOn hc0 ha1 (inRk rfl) e_p7) (kcI (fun h_p7 => ?_))
    refine vg_iconst (pc := 39) (dK D_Mo_describe_0 23 rfl) ?_
    refine vg_icmp_eq (pc := 40) (t := 55) (dK D_Mo_describe_0 24 rfl) rfl h_p7 (inRk rfl) (fun hc34 => ?_) (fun hc34 => ?_)
    · replace h := ifP h hc34
      refine vg_iconst (pc := 55) (dK D_Mo_describe_0 32 rfl) ?_
      refine g_istoren (pc := 56) (i0 := 2) (ls2 := [(2, V 0), (0, .ref c0), (1, V a1)]) (dK D_Mo_describe_0 33 rfl) rfl (ltK rfl) rfl ?_
      refine bnE h (fun p14 e_p14 h => ?_)
      refine gL_weak (ls' := [(0, .ref c0), (1, V a1), (2, V 0)]) (sbc 1 rfl (sbc 2 rfl (sbc 0 rfl sbn))) ?_
      refine tl_Mo_describe_57 hc0 ha1 ?_ FU (0, S6) e_p14 (inRk rfl)
      refine vg_iconst (pc := 91) (dK D_Mo_describe_1 2 rfl) ?_
      refine g_istoren (pc := 92) (i0 := 2) (ls2 := [(2, V 0), (0, .ref c0), (1, V a1)]) (dK D_Mo_describe_1 3 rfl) rfl (ltK rfl) rfl ?_
      refine bnE h (fun p21 e_p21 h => ?_)
      refine gL_weak (ls' := [(0, .ref c0), (1, V a1), (2, V 0)]) (sbc 1 rfl (sbc 2 rfl (sbc 0 rfl sbn))) ?_
      refine tl_Mo_describe_93 hc0 ha1 ?_ FU (0, p14) e_p21 (inRk rfl)
      refine g_aloadn (pc := 126) (i0 := 0) (j := 0) (dK D_Mo_describe_1 22 rfl) rfl rfl ?_
      refine g_iloadn (pc := 127) (i0 := 1) (j := 1) (dK D_Mo_describe_1 23 rfl) rfl rfl ?_
      refine bnE h (fun p22 e_p22 h => ?_)
      refine vg_cV (pc := 128) (As := [V a1]) (rest := []) (mc' := 0) (ms' := 0) (dK D_Mo_describe_1 24 rfl) K_Mo_184 (fitK rfl) (ltK rfl) hc0 rfl (leK rfl) (leK rfl) (leK rfl) (tf_Mo_left hc0 ha1 e_p22) (kcI (fun h_p22 => ?_))
      refine vg_if_le (pc := 131) (t := 145) (dK D_Mo_describe_1 25 rfl) rfl h_p22 (fun hc25 => ?_) (fun hc25 => ?_)
      · replace h := ifP h hc25
        refine g_aloadn (pc := 145) (i0 := 0) (j := 0) (dK D_Mo_describe_1 32 rfl) rfl rfl ?_
        refine vg_getI (pc := 146) (ci := 11) (f := 12) (dK D_Mo_describe_1 33 rfl) q_1454 hc0 (ltK rfl) (ltK rfl) rfl ?_
        exact vg_iretI (pc := 149) (r := (g p21 c0 12)) (dK D_Mo_describe_1 34 rfl) rfl (leK rfl) (leK rfl) (fun _ => rfl) (by obtain rfl := Option.some.inj h; exact ⟨rfl, (g_in _ _ _), rfl⟩)
      · replace h := ifN h hc25
        refine g_aloadn (pc := 134) (i0 := 0) (j := 0) (dK D_Mo_describe_1 26 rfl) rfl rfl ?_
        refine vg_bipush (pc := 135) (dK D_Mo_describe_1 27 rfl) rfl ?_
        refine g_aloadn (pc := 137) (i0 := 0) (j := 0) (dK D_Mo_describe_1 28 rfl) rfl rfl ?_
        refine g_iloadn (pc := 138) (i0 := 1) (j := 1) (dK D_Mo_describe_1 29 rfl) rfl rfl ?_
        refine bnE h (fun p23 e_p23 h => ?_)
        refine vg_cV (pc := 139) (As := [V a1]) (rest := [V 43, .ref c0]) (mc' := 0) (ms' := 0) (dK D_Mo_describe_1 30 rfl) K_Mo_184 (fitK rfl) (ltK rfl) hc0 rfl (leK rfl) (leK rfl) (leK rfl) (tf_Mo_left hc0 ha1 e_p23) (kcI (fun h_p23 => ?_))
        refine bnE h (fun p24 e_p24 h => ?_)
        refine vg_cV (pc := 142) (As := [V 43, V p23]) (rest := []) (mc' := 0) (ms' := 0) (dK D_Mo_describe_1 31 rfl) K_Mo_301 (fitK rfl) (ltK rfl) hc0 rfl (leK rfl) (leK rfl) (leK rfl) (tf_Mo_writeItem hc0 (inRk rfl) h_p23 e_p24) (kcU ?_)
        refine g_aloadn (pc := 145) (i0 := 0) (j := 0) (dK D_Mo_describe_1 32 rfl) rfl rfl ?_
        refine vg_getI (pc := 146) (ci := 11) (f := 12) (dK D_Mo_describe_1 33 rfl) q_1454 hc0 (ltK rfl) (ltK rfl) rfl ?_
        exact vg_iretI (pc := 149) (r := (g p24 c0 12)) (dK D_Mo_describe_1 34 rfl) rfl (leK rfl) (leK rfl) (fun _ => rfl) (by obtain rfl := Option.some.inj h; exact ⟨rfl, (g_in _ _ _), rfl⟩)
    · replace h := ifN h hc34
      refine g_aloadn (pc := 43) (i0 := 0) (j := 0) (dK D_Mo_describe_0 25 rfl) rfl rfl ?_
      refine vg_bipush (pc := 44) (dK D_Mo_describe_0 26 rfl) rfl ?_
      refine g_aloadn (pc := 46) (i0 := 0) (j := 0) (dK D_Mo_describe_0 27 rfl) rfl rfl ?_
      refine g_iloadn (pc := 47) (i0 := 1) (j := 1) (dK D_Mo_describe_0 28 rfl) rfl rfl ?_
      refine vg_iconst (pc := 48) (dK D_Mo_describe_0 29 rfl) ?_
      refine bnE h (fun p26 e_p26 h => ?_)
      refine vg_cV (pc := 49) (As := [V a1, V (-1)]) (rest := [V 115, .ref c0]) (mc' := 0) (ms' := 0) (dK D_Mo_describe_0 30 rfl) K_Mo_95 (fitK rfl) (ltK rfl) hc0 rfl (leK rfl) (leK rfl) (leK rfl) (tf_Mo_storyOn hc0 ha1 (inRk rfl) e_p26) (kcI (fun h_p26 => ?_))
      refine bnE h (fun p27 e_p27 h => ?_)
      refine vg_cV (pc := 52) (As := [V 115, V p26]) (rest := []) (mc' := 0) (ms' := 0) (dK D_Mo_describe_0 31 rfl) K_Mo_301 (fitK rfl) (ltK rfl) hc0 rfl (leK rfl) (leK rfl) (leK rfl) (tf_Mo_writeItem hc0 (inRk rfl) h_p26 e_p27) (kcU ?_)
      refine vg_iconst (pc := 55) (dK D_Mo_describe_0 32 rfl) ?_
      refine g_istoren (pc := 56) (i0 := 2) (ls2 := [(2, V 0), (0, .ref c0), (1, V a1)]) (dK D_Mo_describe_0 33 rfl) rfl (ltK rfl) rfl ?_
      refine bnE h (fun p28 e_p28 h => ?_)
      refine gL_weak (ls' := [(0, .ref c0), (1, V a1), (2, V 0)]) (sbc 1 rfl (sbc 2 rfl (sbc 0 rfl sbn))) ?_
      refine tl_Mo_describe_57 hc0 ha1 ?_ FU (0, p27) e_p28 (inRk rfl)
      refine vg_iconst (pc := 91) (dK D_Mo_describe_1 2 rfl) ?_
      refine g_istoren (pc := 92) (i0 := 2) (ls2 := [(2, V 0), (0, .ref c0), (1, V a1)]) (dK D_Mo_describe_1 3 rfl) rfl (ltK rfl) rfl ?_
      refine bnE h (fun p29 e_p29 h => ?_)
      refine gL_weak (ls' := [(0, .ref c0), (1, V a1), (2, V 0)]) (sbc 1 rfl (sbc 2 rfl (sbc 0 rfl sbn))) ?_
      refine tl_Mo_describe_93 hc0 ha1 ?_ FU (0, p28) e_p29 (inRk rfl)
      refine g_aloadn (pc := 126) (i0 := 0) (j := 0) (dK D_Mo_describe_1 22 rfl) rfl rfl ?_
      refine g_iloadn (pc := 127) (i0 := 1) (j := 1) (dK D_Mo_describe_1 23 rfl) rfl rfl ?_
      refine bnE h (fun p30 e_p30 h => ?_)
      refine vg_cV (pc := 128) (As := [V a1]) (rest := []) (mc' := 0) (ms' := 0) (dK D_Mo_describe_1 24 rfl) K_Mo_184 (fitK rfl) (ltK rfl) hc0 rfl (leK rfl) (leK rfl) (leK rfl) (tf_Mo_left hc0 ha1 e_p30) (kcI (fun h_p30 => ?_))
      refine vg_if_le (pc := 131) (t := 145) (dK D_Mo_describe_1 25 rfl) rfl h_p30 (fun hc33 => ?_) (fun hc33 => ?_)
      · replace h := ifP h hc33
        refine g_aloadn (pc := 145) (i0 := 0) (j := 0) (dK D_Mo_describe_1 32 rfl) rfl rfl ?_
        refine vg_getI (pc := 146) (ci := 11) (f := 12) (dK D_Mo_describe_1 33 rfl) q_1454 hc0 (ltK rfl) (ltK rfl) rfl ?_
        exact vg_iretI (pc := 149) (r := (g p29 c0 12)) (dK D_Mo_describe_1 34 rfl) rfl (leK rfl) (leK rfl) (fun _ => rfl) (by obtain rfl := Option.some.inj h; exact ⟨rfl, (g_in _ _ _), rfl⟩)
      · replace h := ifN h hc33
        refine g_aloadn (pc := 134) (i0 := 0) (j := 0) (dK D_Mo_describe_1 26 rfl) rfl rfl ?_
        refine vg_bipush (pc := 135) (dK D_Mo_describe_1 27 rfl) rfl ?_
        refine g_aloadn (pc := 137) (i0 := 0) (j := 0) (dK D_Mo_describe_1 28 rfl) rfl rfl ?_
        refine g_iloadn (pc := 138) (i0 := 1) (j := 1) (dK D_Mo_describe_1 29 rfl) rfl rfl ?_
        refine bnE h (fun p31 e_p31 h => ?_)
        refine vg_cV (pc := 139) (As := [V a1]) (rest := [V 43, .ref c0]) (mc' := 0) (ms' := 0) (dK D_Mo_describe_1 30 rfl) K_Mo_184 (fitK rfl) (ltK rfl) hc0 rfl (leK rfl) (leK rfl) (leK rfl) (tf_Mo_left hc0 ha1 e_p31) (kcI (fun h_p31 => ?_))
        refine bnE h (fun p32 e_p32 h => ?_)
        refine vg_cV (pc := 142) (As := [V 43, V p31]) (rest := []) (mc' := 0) (ms' := 0) (dK D_Mo_describe_1 31 rfl) K_Mo_301 (fitK rfl) (ltK rfl) hc0 rfl (leK rfl) (leK rfl) (leK rfl) (tf_Mo_writeItem hc0 (inRk rfl) h_p31 e_p32) (kcU ?_)
        refine g_aloadn (pc := 145) (i0 := 0) (j := 0) (dK D_Mo_describe_1 32 rfl) rfl rfl ?_
        refine vg_getI (pc := 146) (ci := 11) (f := 12) (dK D_Mo_describe_1 33 rfl) q_1454 hc0 (ltK rfl) (ltK rfl) rfl ?_
        exact vg_iretI (pc := 149) (r := (g p32 c0 12)) (dK D_Mo_describe_1 34 rfl) rfl (leK rfl) (leK rfl) (fun _ => rfl) (by obtain rfl := Option.some.inj h; exact ⟨rfl, (g_in _ _ _), rfl⟩)
def fn_Mo_describe (c0 : Nat) (a1 : Int) (S : St) : Option (Int × St) := nm (u S c0 4 0) fun S1 => bnO (fn_Mo_isPage c0 a1 S1) fun p2 => if p2 = true then (jf_Mo_describe_19 c0 a1 0 c0 S1) else (jf_Mo_describe_19 c0 a1 1 c0 S1)
theorem tf_Mo_describe {E : EV} {X : XT} {c0 : Nat} (hc0 : HC X 11 c0) {a1 : Int} (ha1 : inR a1) {S : St} {q : Int × St} (h : fn_Mo_describe c0 a1 S = some q) : Ev E M_Mo_describe [.ref c0, V a1] (WX X S) 0 0 (KI X q.1 q.2) := by
  refine Ev.of pn_Mo rfl (leK rfl) ?_
  show Go E M_Mo_describe 0 0 0 [(0, .ref c0), (1, V a1)] [] (WX X S) 0 0 (KI X q.1 q.2)
  unfold fn_Mo_describe at h
  refine g_aloadn (pc := 0) (i0 := 0) (j := 0) (dK D_Mo_describe_0 0 rfl) rfl rfl ?_
  refine vg_iconst (pc := 1) (dK D_Mo_describe_0 1 rfl) ?_
  refine nmE h (fun S1 e_S1 h => ?_)
  refine vg_putI (pc := 2) (ci := 11) (f := 4) (z := 0) (dK D_Mo_describe_0 2 rfl) q_1446 hc0 (ltK rfl) (ltK rfl) rfl rfl e_S1 ?_
  refine g_aloadn (pc := 5) (i0 := 0) (j := 0) (dK D_Mo_describe_0 3 rfl) rfl rfl ?_
  refine g_aloadn (pc := 6) (i0 := 0) (j := 0) (dK D_Mo_describe_0 4 rfl) rfl rfl ?_
  refine g_iloadn (pc := 7) (i0 := 1) (j := 1) (dK D_Mo_describe_0 5 rfl) rfl rfl ?_
  refine bnE h (fun p2 e_p2 h => ?_)
  refine vg_cV (pc := 8) (As := [V a1]) (rest := [.ref c0]) (mc' := 0) (ms' := 0) (dK D_Mo_describe_0 6 rfl) K_Mo_105 (fitK rfl) (ltK rfl) hc0 rfl (leK rfl) (leK rfl) (leK rfl) (tf_Mo_isPage hc0 ha1 e_p2) (kcB ?_)
  refine vg_ifB_ne (pc := 11) (b := p2) (t := 18) (dK D_Mo_describe_0 7 rfl) rfl (fun hc3 => ?_) (fun hc3 => ?_)
  · replace h := ifP h hc3
    refine vg_iconst (pc := 18) (dK D_Mo_describe_0 10 rfl) ?_
    exact tj_Mo_describe_19 hc0 ha1 (inRk rfl) hc0 h
  · replace h := ifN h hc3
    refine vg_iconst (pc := 14) (dK D_Mo_describe_0 8 rfl) ?_
    refine g_goto (pc := 15) (tgt := 19) (dK D_Mo_describe_0 9 rfl) rfl ?_
    exact tj_Mo_describe_19 hc0 ha1 (inRk rfl) hc0 h
def fn_Mo_describedByte (c0 : Nat) (a1 : Int) (S : St) : Option (Int × St) := nm (u S c0 4 0) fun S1 => nm (wr ((g S1 c0 12) - 1)) fun v2 => bnO (fn_Mo_inRange a1 0 v2 S1) fun p3 => if p3 = true then (if 0 ≤ a1 ∧ a1 < 60 then (some ((g S1 (tgt c0 11) a1.toNat), S1)) else none) else (some ((-1), S1))
theorem tf_Mo_describedByte {E : EV} {X : XT} {c0 : Nat} (hc0 : HC X 11 c0) {a1 : Int} (ha1 : inR a1) {S : St} {q : Int × St} (h : fn_Mo_describedByte c0 a1 S = some q) : Ev E M_Mo_describedByte [.ref c0, V a1] (WX X S) 0 0 (KI X q.1 q.2) := by
  refine Ev.of pn_Mo rfl (leK rfl) ?_
  show Go E M_Mo_describedByte 0 0 0 [(0, .ref c0), (1, V a1)] [] (WX X S) 0 0 (KI X q.1 q.2)
  unfold fn_Mo_describedByte at h
  refine g_aloadn (pc := 0) (i0 := 0) (j := 0) (dK D_Mo_describedByte 0 rfl) rfl rfl ?_
  refine vg_iconst (pc := 1) (dK D_Mo_describedByte 1 rfl) ?_
  refine nmE h (fun S1 e_S1 h => ?_)
  refine vg_putI (pc := 2) (ci := 11) (f := 4) (z := 0) (dK D_Mo_describedByte 2 rfl) q_1446 hc0 (ltK rfl) (ltK rfl) rfl rfl e_S1 ?_
  refine g_iloadn (pc := 5) (i0 := 1) (j := 1) (dK D_Mo_describedByte 3 rfl) rfl rfl ?_
  refine vg_i2l (pc := 6) (dK D_Mo_describedByte 4 rfl) ha1 ?_
  refine vg_lconst (pc := 7) (y := 0) (dK D_Mo_describedByte 5 rfl) rfl ?_
  refine g_aloadn (pc := 8) (i0 := 0) (j := 0) (dK D_Mo_describedByte 6 rfl) rfl rfl ?_
  refine vg_getI (pc := 9) (ci := 11) (f := 12) (dK D_Mo_describedByte 7 rfl) q_1454 hc0 (ltK rfl) (ltK rfl) rfl ?_
  refine vg_iconst (pc := 12) (dK D_Mo_describedByte 8 rfl) ?_
  refine vg_isub (pc := 13) (dK D_Mo_describedByte 9 rfl) ?_
  refine nmE h (fun v2 e_v2 h => ?_)
  refine gtop e_v2 ?_
  refine vg_i2l (pc := 14) (dK D_Mo_describedByte 10 rfl) (Vn_in e_v2) ?_
  refine bnE h (fun p3 e_p3 h => ?_)
  refine vg_cS (pc := 15) (As := [J a1, J 0, J v2]) (rest := []) (mc' := 0) (ms' := 0) (dK D_Mo_describedByte 11 rfl) K_Mo_67 (fitK rfl) rfl (leK rfl) (leK rfl) (leK rfl) (tf_Mo_inRange (inR_L ha1) (inLk rfl) (inR_L (Vn_in e_v2)) e_p3) (kcB ?_)
  refine vg_ifB_eq (pc := 18) (b := p3) (t := 30) (dK D_Mo_describedByte 12 rfl) rfl (fun hc4 => ?_) (fun hc4 => ?_)
  · replace h := ifP h hc4
    refine g_aloadn (pc := 21) (i0 := 0) (j := 0) (dK D_Mo_describedByte 13 rfl) rfl rfl ?_
    refine vg_getA (pc := 22) (ci := 11) (f := 11) (dK D_Mo_describedByte 14 rfl) q_1453 hc0 (ltK rfl) (ltK rfl) rfl ?_
    refine g_iloadn (pc := 25) (i0 := 1) (j := 1) (dK D_Mo_describedByte 15 rfl) rfl rfl ?_
    refine gdE h (fun hi5 h => ?_)
    refine vg_iaload (pc := 26) (j := a1.toNat) (dK D_Mo_describedByte 16 rfl) (hw_11_11 hc0) rfl hi5 rfl ?_
    refine g_goto (pc := 27) (tgt := 31) (dK D_Mo_describedByte 17 rfl) rfl ?_
    exact vg_iretI (pc := 31) (r := (g S1 (tgt c0 11) a1.toNat)) (dK D_Mo_describedByte 19 rfl) rfl (leK rfl) (leK rfl) (fun _ => rfl) (by obtain rfl := Option.some.inj h; exact ⟨rfl, (g_in _ _ _), rfl⟩)
  · replace h := ifN h hc4
    refine vg_iconst (pc := 30) (dK D_Mo_describedByte 18 rfl) ?_
    exact vg_iretI (pc := 31) (r := (-1)) (dK D_Mo_describedByte 19 rfl) rfl (leK rfl) (leK rfl) (fun _ => rfl) (by obtain rfl := Option.some.inj h; exact ⟨rfl, (inRk rfl), rfl⟩)
def lb_Mo_digest_9 (c0 : Nat) (S : St) (go : Int × Int → Option (Int)) (a1 : Int) (a2 : Int) : Option (Int) := if (g S (tgt c0 0) 1) ≤ a2 then (some a1) else (bnO (fn_Mo_ofAd c0 a2 6 S) fun p2 => nm (wr ((31 * a1) + p2)) fun v3 => nm (wr (a2 + 1)) fun v4 => go (v3, v4))
def lo_Mo_digest_9 (c0 : Nat) (S : St) : Nat → Int × Int → Option (Int) := lp fun go p => lb_Mo_digest_9 c0 S go p.1 p.2
theorem tl_Mo_digest_9 {E : EV} {X : XT} {c0 : Nat} (hc0 : HC X 11 c0) {S : St} {K : RK → PS → Prop} {q : Int} (hx : inR q → Go E M_Mo_digest 0 0 38 [(0, .ref c0), (1, V q)] [] (WX X S) 0 0 K) : ∀ n a, lo_Mo_digest_9 c0 S n a = some q → inR a.1 → inR a.2 → Go E M_Mo_digest 0 0 9 [(0, .ref c0), (1, V a.1), (2, V a.2)] [] (WX X S) 0 0 K := by
  refine lp_ind (P := fun a : Int × Int => inR a.1 → inR a.2 → Go E M_Mo_digest 0 0 9 [(0, .ref c0), (1, V a.1), (2, V a.2)] [] (WX X S) 0 0 K) (fun go ih a h => ?_)
  obtain ⟨a1, a2⟩ := a
  intro ha1 ha2
  show Go E M_Mo_digest 0 0 9 [(0, .ref c0), (1, V a1), (2, V a2)] [] (WX X S) 0 0 K
  replace h : lb_Mo_digest_9 c0 S go a1 a2 = some q := h
  unfold lb_Mo_digest_9 at h
  refine g_iloadn (pc := 9) (i0 := 2) (j := 2) (dK D_Mo_digest_0 7 rfl) rfl rfl ?_
  refine g_aloadn (pc := 10) (i0 := 0) (j := 0) (dK D_Mo_digest_0 8 rfl) rfl rfl ?_
  refine vg_getA (pc := 11) (ci := 11) (f := 0) (dK D_Mo_digest_0 9 rfl) q_1442 hc0 (ltK rfl) (ltK rfl) rfl ?_
  refine vg_iconst (pc := 14) (dK D_Mo_digest_0 10 rfl) ?_
  refine vg_iaload (pc := 15) (j := 1) (dK D_Mo_digest_0 11 rfl) (hw_11_0 hc0) rfl ⟨by decide, by decide⟩ rfl ?_
  refine vg_icmp_ge (pc := 16) (t := 38) (dK D_Mo_digest_0 12 rfl) rfl ha2 (g_in _ _ _) (fun hc5 => ?_) (fun hc5 => ?_)
  · replace h := ifP h hc5
    obtain rfl := Option.some.inj h
    refine gL_weak (ls' := [(0, .ref c0), (1, V a1)]) (sbc 0 rfl (sbc 1 rfl sbn)) ?_
    exact hx ha1
  · replace h := ifN h hc5
    refine vg_bipush (pc := 19) (dK D_Mo_digest_0 13 rfl) rfl ?_
    refine g_iloadn (pc := 21) (i0 := 1) (j := 1) (dK D_Mo_digest_0 14 rfl) rfl rfl ?_
    refine vg_imul (pc := 22) (dK D_Mo_digest_0 15 rfl) ?_
    refine g_aloadn (pc := 23) (i0 := 0) (j := 0) (dK D_Mo_digest_0 16 rfl) rfl rfl ?_
    refine g_iloadn (pc := 24) (i0 := 2) (j := 2) (dK D_Mo_digest_0 17 rfl) rfl rfl ?_
    refine vg_bipush (pc := 25) (dK D_Mo_digest_0 18 rfl) rfl ?_
    refine bnE h (fun p2 e_p2 h => ?_)
    refine vg_cV (pc := 27) (As := [V a2, V 6]) (rest := [V (31 * a1)]) (mc' := 0) (ms' := 0) (dK D_Mo_digest_0 19 rfl) K_Mo_82 (fitK rfl) (ltK rfl) hc0 rfl (leK rfl) (leK rfl) (leK rfl) (tf_Mo_ofAd hc0 ha2 (inRk rfl) e_p2) (kcI (fun h_p2 => ?_))
    refine vg_iadd (pc := 30) (dK D_Mo_digest_0 20 rfl) ?_
    refine nmE h (fun v3 e_v3 h => ?_)
    refine gtop e_v3 ?_
    refine g_istoren (pc := 31) (i0 := 1) (ls2 := [(1, V v3), (0, .ref c0), (2, V a2)]) (dK D_Mo_digest_0 21 rfl) rfl (ltK rfl) rfl ?_
    refine nmE h (fun v4 e_v4 h => ?_)
    refine vg_iinc (pc := 32) (j := 2) (a := a2) (z := 1) (ls2 := [(2, V v4), (1, V v3), (0, .ref c0)]) (dK D_Mo_digest_0 22 rfl) rfl e_v4 (ltK rfl) rfl ?_
    refine g_goto (pc := 35) (tgt := 9) (dK D_Mo_digest_0 23 rfl) rfl ?_
    refine gL_weak (ls' := [(0, .ref c0), (1, V v3), (2, V v4)]) (sbc 2 rfl (sbc 1 rfl (sbc 0 rfl sbn))) ?_
    replace h := ih _ h
    exact h (Vn_in e_v3) (Vn_in e_v4)
def lb_Mo_digest_40 (c0 : Nat) (S : St) (go : Int × Int → Option (Int)) (a1 : Int) (a2 : Int) : Option (Int) := if (g S (tgt c0 0) 2) ≤ a2 then (some a1) else (bnO (fn_Mo_ofStory c0 a2 4 S) fun p7 => nm (wr ((31 * a1) + p7)) fun v8 => nm (wr (a2 + 1)) fun v9 => go (v8, v9))
def lo_Mo_digest_40 (c0 : Nat) (S : St) : Nat → Int × Int → Option (Int) := lp fun go p => lb_Mo_digest_40 c0 S go p.1 p.2
theorem tl_Mo_digest_40 {E : EV} {X : XT} {c0 : Nat} (hc0 : HC X 11 c0) {S : St} {K : RK → PS → Prop} {q : Int} (hx : inR q → Go E M_Mo_digest 0 0 68 [(0, .ref c0), (1, V q)] [] (WX X S) 0 0 K) : ∀ n a, lo_Mo_digest_40 c0 S n a = some q → inR a.1 → inR a.2 → Go E M_Mo_digest 0 0 40 [(0, .ref c0), (1, V a.1), (2, V a.2)] [] (WX X S) 0 0 K := by
  refine lp_ind (P := fun a : Int × Int => inR a.1 → inR a.2 → Go E M_Mo_digest 0 0 40 [(0, .ref c0), (1, V a.1), (2, V a.2)] [] (WX X S) 0 0 K) (fun go ih a h => ?_)
  obtain ⟨a1, a2⟩ := a
  intro ha1 ha2
  show Go E M_Mo_digest 0 0 40 [(0, .ref c0), (1, V a1), (2, V a2)] [] (WX X S) 0 0 K
  replace h : lb_Mo_digest_40 c0 S go a1 a2 = some q := h
  unfold lb_Mo_digest_40 at h
  refine g_iloadn (pc := 40) (i0 := 2) (j := 2) (dK D_Mo_digest_0 26 rfl) rfl rfl ?_
  refine g_aloadn (pc := 41) (i0 := 0) (j := 0) (dK D_Mo_digest_0 27 rfl) rfl rfl ?_
  refine vg_getA (pc := 42) (ci := 11) (f := 0) (dK D_Mo_digest_0 28 rfl) q_1442 hc0 (ltK rfl) (ltK rfl) rfl ?_
  refine vg_iconst (pc := 45) (dK D_Mo_digest_0 29 rfl) ?_
  refine vg_iaload (pc := 46) (j := 2) (dK D_Mo_digest_0 30 rfl) (hw_11_0 hc0) rfl ⟨by decide, by decide⟩ rfl ?_
  refine vg_icmp_ge (pc := 47) (t := 68) (dK D_Mo_digest_0 31 rfl) rfl ha2 (g_in _ _ _) (fun hc10 => ?_) (fun hc10 => ?_)
  · replace h := ifP h hc10
    obtain rfl := Option.some.inj h
    refine gL_weak (ls' := [(0, .ref c0), (1, V a1)]) (sbc 0 rfl (sbc 1 rfl sbn)) ?_
    exact hx ha1
  · replace h := ifN h hc10
    refine vg_bipush (pc := 50) (dK D_Mo_digest_0 32 rfl) rfl ?_
    refine g_iloadn (pc := 52) (i0 := 1) (j := 1) (dK D_Mo_digest_0 33 rfl) rfl rfl ?_
    refine vg_imul (pc := 53) (dK D_Mo_digest_0 34 rfl) ?_
    refine g_aloadn (pc := 54) (i0 := 0) (j := 0) (dK D_Mo_digest_0 35 rfl) rfl rfl ?_
    refine g_iloadn (pc := 55) (i0 := 2) (j := 2) (dK D_Mo_digest_0 36 rfl) rfl rfl ?_
    refine vg_iconst (pc := 56) (dK D_Mo_digest_0 37 rfl) ?_
    refine bnE h (fun p7 e_p7 h => ?_)
    refine vg_cV (pc := 57) (As := [V a2, V 4]) (rest := [V (31 * a1)]) (mc' := 0) (ms' := 0) (dK D_Mo_digest_0 38 rfl) K_Mo_85 (fitK rfl) (ltK rfl) hc0 rfl (leK rfl) (leK rfl) (leK rfl) (tf_Mo_ofStory hc0 ha2 (inRk rfl) e_p7) (kcI (fun h_p7 => ?_))
    refine vg_iadd (pc := 60) (dK D_Mo_digest_0 39 rfl) ?_
    refine nmE h (fun v8 e_v8 h => ?_)
    refine gtop e_v8 ?_
    refine g_istoren (pc := 61) (i0 := 1) (ls2 := [(1, V v8), (0, .ref c0), (2, V a2)]) (dK D_Mo_digest_0 40 rfl) rfl (ltK rfl) rfl ?_
    refine nmE h (fun v9 e_v9 h => ?_)
    refine vg_iinc (pc := 62) (j := 2) (a := a2) (z := 1) (ls2 := [(2, V v9), (1, V v8), (0, .ref c0)]) (dK D_Mo_digest_0 41 rfl) rfl e_v9 (ltK rfl) rfl ?_
    refine g_goto (pc := 65) (tgt := 40) (dK D_Mo_digest_0 42 rfl) rfl ?_
    refine gL_weak (ls' := [(0, .ref c0), (1, V v8), (2, V v9)]) (sbc 2 rfl (sbc 1 rfl (sbc 0 rfl sbn))) ?_
    replace h := ih _ h
    exact h (Vn_in e_v8) (Vn_in e_v9)
def lb_Mo_digest_70 (c0 : Nat) (S : St) (go : Int × Int → Option (Int)) (a1 : Int) (a2 : Int) : Option (Int) := if (g S (tgt c0 0) 3) ≤ a2 then (some a1) else (bnO (fn_Mo_ofStandby c0 a2 1 S) fun p12 => nm (wr ((31 * a1) + p12)) fun v13 => nm (wr (a2 + 1)) fun v14 => go (v13, v14))
def lo_Mo_digest_70 (c0 : Nat) (S : St) : Nat → Int × Int → Option (Int) := lp fun go p => lb_Mo_digest_70 c0 S go p.1 p.2
theorem tl_Mo_digest_70 {E : EV} {X : XT} {c0 : Nat} (hc0 : HC X 11 c0) {S : St} {K : RK → PS → Prop} {q : Int} (hx : inR q → Go E M_Mo_digest 0 0 98 [(0, .ref c0), (1, V q)] [] (WX X S) 0 0 K) : ∀ n a, lo_Mo_digest_70 c0 S n a = some q → inR a.1 → inR a.2 → Go E M_Mo_digest 0 0 70 [(0, .ref c0), (1, V a.1), (2, V a.2)] [] (WX X S) 0 0 K := by
  refine lp_ind (P := fun a : Int × Int => inR a.1 → inR a.2 → Go E M_Mo_digest 0 0 70 [(0, .ref c0), (1, V a.1), (2, V a.2)] [] (WX X S) 0 0 K) (fun go ih a h => ?_)
  obtain ⟨a1, a2⟩ := a
  intro ha1 ha2
  show Go E M_Mo_digest 0 0 70 [(0, .ref c0), (1, V a1), (2, V a2)] [] (WX X S) 0 0 K
  replace h : lb_Mo_digest_70 c0 S go a1 a2 = some q := h
  unfold lb_Mo_digest_70 at h
  refine g_iloadn (pc := 70) (i0 := 2) (j := 2) (dK D_Mo_digest_0 45 rfl) rfl rfl ?_
  refine g_aloadn (pc := 71) (i0 := 0) (j := 0) (dK D_Mo_digest_0 46 rfl) rfl rfl ?_
  refine vg_getA (pc := 72) (ci := 11) (f := 0) (dK D_Mo_digest_0 47 rfl) q_1442 hc0 (ltK rfl) (ltK rfl) rfl ?_
  refine vg_iconst (pc := 75) (dK D_Mo_digest_0 48 rfl) ?_
  refine vg_iaload (pc := 76) (j := 3) (dK D_Mo_digest_0 49 rfl) (hw_11_0 hc0) rfl ⟨by decide, by decide⟩ rfl ?_
  refine vg_icmp_ge (pc := 77) (t := 98) (dK D_Mo_digest_1 0 rfl) rfl ha2 (g_in _ _ _) (fun hc15 => ?_) (fun hc15 => ?_)
  · replace h := ifP h hc15
    obtain rfl := Option.some.inj h
    refine gL_weak (ls' := [(0, .ref c0), (1, V a1)]) (sbc 0 rfl (sbc 1 rfl sbn)) ?_
    exact hx ha1
  · replace h := ifN h hc15
    refine vg_bipush (pc := 80) (dK D_Mo_digest_1 1 rfl) rfl ?_
    refine g_iloadn (pc := 82) (i0 := 1) (j := 1) (dK D_Mo_digest_1 2 rfl) rfl rfl ?_
    refine vg_imul (pc := 83) (dK D_Mo_digest_1 3 rfl) ?_
    refine g_aloadn (pc := 84) (i0 := 0) (j := 0) (dK D_Mo_digest_1 4 rfl) rfl rfl ?_
    refine g_iloadn (pc := 85) (i0 := 2) (j := 2) (dK D_Mo_digest_1 5 rfl) rfl rfl ?_
    refine vg_iconst (pc := 86) (dK D_Mo_digest_1 6 rfl) ?_
    refine bnE h (fun p12 e_p12 h => ?_)
    refine vg_cV (pc := 87) (As := [V a2, V 1]) (rest := [V (31 * a1)]) (mc' := 0) (ms' := 0) (dK D_Mo_digest_1 7 rfl) K_Mo_92 (fitK rfl) (ltK rfl) hc0 rfl (leK rfl) (leK rfl) (leK rfl) (tf_Mo_ofStandby hc0 ha2 (inRk rfl) e_p12) (kcI (fun h_p12 => ?_))
    refine vg_iadd (pc := 90) (dK D_Mo_digest_1 8 rfl) ?_
    refine nmE h (fun v13 e_v13 h => ?_)
    refine gtop e_v13 ?_
    refine g_istoren (pc := 91) (i0 := 1) (ls2 := [(1, V v13), (0, .ref c0), (2, V a2)]) (dK D_Mo_digest_1 9 rfl) rfl (ltK rfl) rfl ?_
    refine nmE h (fun v14 e_v14 h => ?_)
    refine vg_iinc (pc := 92) (j := 2) (a := a2) (z := 1) (ls2 := [(2, V v14), (1, V v13), (0, .ref c0)]) (dK D_Mo_digest_1 10 rfl) rfl e_v14 (ltK rfl) rfl ?_
    refine g_goto (pc := 95) (tgt := 70) (dK D_Mo_digest_1 11 rfl) rfl ?_
    refine gL_weak (ls' := [(0, .ref c0), (1, V v13), (2, V v14)]) (sbc 2 rfl (sbc 1 rfl (sbc 0 rfl sbn))) ?_
    replace h := ih _ h
    exact h (Vn_in e_v13) (Vn_in e_v14)
def lb_Mo_digest_100 (c0 : Nat) (S : St) (go : Int × Int → Option (Int)) (a1 : Int) (a2 : Int) : Option (Int) := bnO (fn_Mo_formMany c0 S) fun p17 => if p17 ≤ a2 then (some a1) else (bnO (fn_Mo_ofForm c0 a2 1 S) fun p18 => nm (wr ((31 * a1) + p18)) fun v19 => nm (wr (a2 + 1)) fun v20 => go (v19, v20))
def lo_Mo_digest_100 (c0 : Nat) (S : St) : Nat → Int × Int → Option (Int) := lp fun go p => lb_Mo_digest_100 c0 S go p.1 p.2
theorem tl_Mo_digest_100 {E : EV} {X : XT} {c0 : Nat} (hc0 : HC X 11 c0) {S : St} {K : RK → PS → Prop} {q : Int} (hx : inR q → Go E M_Mo_digest 0 0 126 [(1, V q)] [] (WX X S) 0 0 K) : ∀ n a, lo_Mo_digest_100 c0 S n a = some q → inR a.1 → inR a.2 → Go E M_Mo_digest 0 0 100 [(0, .ref c0), (1, V a.1), (2, V a.2)] [] (WX X S) 0 0 K := by
  refine lp_ind (P := fun a : Int × Int => inR a.1 → inR a.2 → Go E M_Mo_digest 0 0 100 [(0, .ref c0), (1, V a.1), (2, V a.2)] [] (WX X S) 0 0 K) (fun go ih a h => ?_)
  obtain ⟨a1, a2⟩ := a
  intro ha1 ha2
  show Go E M_Mo_digest 0 0 100 [(0, .ref c0), (1, V a1), (2, V a2)] [] (WX X S) 0 0 K
  replace h : lb_Mo_digest_100 c0 S go a1 a2 = some q := h
  unfold lb_Mo_digest_100 at h
  refine g_iloadn (pc := 100) (i0 := 2) (j := 2) (dK D_Mo_digest_1 14 rfl) rfl rfl ?_
  refine g_aloadn (pc := 101) (i0 := 0) (j := 0) (dK D_Mo_digest_1 15 rfl) rfl rfl ?_
  refine bnE h (fun p17 e_p17 h => ?_)
  refine vg_cV (pc := 102) (As := []) (rest := [V a2]) (mc' := 0) (ms' := 0) (dK D_Mo_digest_1 16 rfl) K_Mo_71 (fitK rfl) (ltK rfl) hc0 rfl (leK rfl) (leK rfl) (leK rfl) (tf_Mo_formMany hc0 e_p17) (kcI (fun h_p17 => ?_))
  refine vg_icmp_ge (pc := 105) (t := 126) (dK D_Mo_digest_1 17 rfl) rfl ha2 h_p17 (fun hc21 => ?_) (fun hc21 => ?_)
  · replace h := ifP h hc21
    obtain rfl := Option.some.inj h
    refine gL_weak (ls' := [(1, V a1)]) (sbc 1 rfl sbn) ?_
    exact hx ha1
  · replace h := ifN h hc21
    refine vg_bipush (pc := 108) (dK D_Mo_digest_1 18 rfl) rfl ?_
    refine g_iloadn (pc := 110) (i0 := 1) (j := 1) (dK D_Mo_digest_1 19 rfl) rfl rfl ?_
    refine vg_imul (pc := 111) (dK D_Mo_digest_1 20 rfl) ?_
    refine g_aloadn (pc := 112) (i0 := 0) (j := 0) (dK D_Mo_digest_1 21 rfl) rfl rfl ?_
    refine g_iloadn (pc := 113) (i0 := 2) (j := 2) (dK D_Mo_digest_1 22 rfl) rfl rfl ?_
    refine vg_iconst (pc := 114) (dK D_Mo_digest_1 23 rfl) ?_
    refine bnE h (fun p18 e_p18 h => ?_)
    refine vg_cV (pc := 115) (As := [V a2, V 1]) (rest := [V (31 * a1)]) (mc' := 0) (ms' := 0) (dK D_Mo_digest_1 24 rfl) K_Mo_78 (fitK rfl) (ltK rfl) hc0 rfl (leK rfl) (leK rfl) (leK rfl) (tf_Mo_ofForm hc0 ha2 (inRk rfl) e_p18) (kcI (fun h_p18 => ?_))
    refine vg_iadd (pc := 118) (dK D_Mo_digest_1 25 rfl) ?_
    refine nmE h (fun v19 e_v19 h => ?_)
    refine gtop e_v19 ?_
    refine g_istoren (pc := 119) (i0 := 1) (ls2 := [(1, V v19), (0, .ref c0), (2, V a2)]) (dK D_Mo_digest_1 26 rfl) rfl (ltK rfl) rfl ?_
    refine nmE h (fun v20 e_v20 h => ?_)
    refine vg_iinc (pc := 120) (j := 2) (a := a2) (z := 1) (ls2 := [(2, V v20), (1, V v19), (0, .ref c0)]) (dK D_Mo_digest_1 27 rfl) rfl e_v20 (ltK rfl) rfl ?_
    refine g_goto (pc := 123) (tgt := 100) (dK D_Mo_digest_1 28 rfl) rfl ?_
    refine gL_weak (ls' := [(0, .ref c0), (1, V v19), (2, V v20)]) (sbc 2 rfl (sbc 1 rfl (sbc 0 rfl sbn))) ?_
    replace h := ih _ h
    exact h (Vn_in e_v19) (Vn_in e_v20)
def fn_Mo_digest (c0 : Nat) (S : St) : Option (Int × St) := nm (u S c0 4 0) fun S1 => bnO (lo_Mo_digest_9 c0 S1 FU (1, 0)) fun p6 => bnO (lo_Mo_digest_40 c0 S1 FU (p6, 0)) fun p11 => bnO (lo_Mo_digest_70 c0 S1 FU (p11, 0)) fun p16 => bnO (lo_Mo_digest_100 c0 S1 FU (p16, 0)) fun p22 => some (p22, S1)
theorem tf_Mo_digest {E : EV} {X : XT} {c0 : Nat} (hc0 : HC X 11 c0) {S : St} {q : Int × St} (h : fn_Mo_digest c0 S = some q) : Ev E M_Mo_digest [.ref c0] (WX X S) 0 0 (KI X q.1 q.2) := by
  refine Ev.of pn_Mo rfl (leK rfl) ?_
  show Go E M_Mo_digest 0 0 0 [(0, .ref c0)] [] (WX X S) 0 0 (KI X q.1 q.2)
  unfold fn_Mo_digest at h
  refine g_aloadn (pc := 0) (i0 := 0) (j := 0) (dK D_Mo_digest_0 0 rfl) rfl rfl ?_
  refine vg_iconst (pc := 1) (dK D_Mo_digest_0 1 rfl) ?_
  refine nmE h (fun S1 e_S1 h => ?_)
  refine vg_putI (pc := 2) (ci := 11) (f := 4) (z := 0) (dK D_Mo_digest_0 2 rfl) q_1446 hc0 (ltK rfl) (ltK rfl) rfl rfl e_S1 ?_
  refine vg_iconst (pc := 5) (dK D_Mo_digest_0 3 rfl) ?_
  refine g_istoren (pc := 6) (i0 := 1) (ls2 := [(1, V 1), (0, .ref c0)]) (dK D_Mo_digest_0 4 rfl) rfl (ltK rfl) rfl ?_
  refine vg_iconst (pc := 7) (dK D_Mo_digest_0 5 rfl) ?_
  refine g_istoren (pc := 8) (i0 := 2) (ls2 := [(2, V 0), (1, V 1), (0, .ref c0)]) (dK D_Mo_digest_0 6 rfl) rfl (ltK rfl) rfl ?_
  refine bnE h (fun p6 e_p6 h => ?_)
  refine gL_weak (ls' := [(0, .ref c0), (1, V 1), (2, V 0)]) (sbc 2 rfl (sbc 1 rfl (sbc 0 rfl sbn))) ?_
  refine tl_Mo_digest_9 hc0 (fun hx1_p6 => ?_) FU (1, 0) e_p6 (inRk rfl) (inRk rfl)
  refine vg_iconst (pc := 38) (dK D_Mo_digest_0 24 rfl) ?_
  refine g_istoren (pc := 39) (i0 := 2) (ls2 := [(2, V 0), (0, .ref c0), (1, V p6)]) (dK D_Mo_digest_0 25 rfl) rfl (ltK rfl) rfl ?_
  refine bnE h (fun p11 e_p11 h => ?_)
  refine gL_weak (ls' := [(0, .ref c0), (1, V p6), (2, V 0)]) (sbc 1 rfl (sbc 2 rfl (sbc 0 rfl sbn))) ?_
  refine tl_Mo_digest_40 hc0 (fun hx1_p11 => ?_) FU (p6, 0) e_p11 hx1_p6 (inRk rfl)
  refine vg_iconst (pc := 68) (dK D_Mo_digest_0 43 rfl) ?_
  refine g_istoren (pc := 69) (i0 := 2) (ls2 := [(2, V 0), (0, .ref c0), (1, V p11)]) (dK D_Mo_digest_0 44 rfl) rfl (ltK rfl) rfl ?_
  refine bnE h (fun p16 e_p16 h => ?_)
  refine gL_weak (ls' := [(0, .ref c0), (1, V p11), (2, V 0)]) (sbc 1 rfl (sbc 2 rfl (sbc 0 rfl sbn))) ?_
  refine tl_Mo_digest_70 hc0 (fun hx1_p16 => ?_) FU (p11, 0) e_p16 hx1_p11 (inRk rfl)
  refine vg_iconst (pc := 98) (dK D_Mo_digest_1 12 rfl) ?_
  refine g_istoren (pc := 99) (i0 := 2) (ls2 := [(2, V 0), (0, .ref c0), (1, V p16)]) (dK D_Mo_digest_1 13 rfl) rfl (ltK rfl) rfl ?_
  refine bnE h (fun p22 e_p22 h => ?_)
  refine gL_weak (ls' := [(0, .ref c0), (1, V p16), (2, V 0)]) (sbc 1 rfl (sbc 2 rfl (sbc 0 rfl sbn))) ?_
  refine tl_Mo_digest_100 hc0 (fun hx1_p22 => ?_) FU (p16, 0) e_p22 hx1_p16 (inRk rfl)
  refine g_iloadn (pc := 126) (i0 := 1) (j := 0) (dK D_Mo_digest_1 29 rfl) rfl rfl ?_
  exact vg_iretI (pc := 127) (r := p22) (dK D_Mo_digest_1 30 rfl) rfl (leK rfl) (leK rfl) (fun _ => rfl) (by obtain rfl := Option.some.inj h; exact ⟨rfl, hx1_p22, rfl⟩)
def lb_Mo_appendBytes_3 (c0 : Nat) (a1 : Int) (go : Int × St → Option (St)) (a2 : Int) (S : St) : Option (St) := if a2 < 0 then (some S) else (if 0 ≤ (g S c0 14) ∧ (g S c0 14) < 1600 then (nm (u S (tgt c0 13) (((g S c0 14)).toNat) (i_nb (i_b (i_shr a1 a2)))) fun S2 => nm (u S2 c0 14 ((g S2 c0 14) + 1)) fun S3 => nm (wr (a2 + (-8))) fun v4 => go (v4, S3)) else none)
def lo_Mo_appendBytes_3 (c0 : Nat) (a1 : Int) : Nat → Int × St → Option (St) := lp fun go p => lb_Mo_appendBytes_3 c0 a1 go p.1 p.2
theorem tl_Mo_appendBytes_3 {E : EV} {X : XT} {c0 : Nat} (hc0 : HC X 11 c0) {a1 : Int} (ha1 : inR a1) {K : RK → PS → Prop} {q : St} (hx : Go E M_Mo_appendBytes 0 0 36 [] [] (WX X q) 0 0 K) : ∀ n a, lo_Mo_appendBytes_3 c0 a1 n a = some q → inR a.1 → Go E M_Mo_appendBytes 0 0 3 [(0, .ref c0), (1, V a1), (2, V a.1)] [] (WX X a.2) 0 0 K := by
  refine lp_ind (P := fun a : Int × St => inR a.1 → Go E M_Mo_appendBytes 0 0 3 [(0, .ref c0), (1, V a1), (2, V a.1)] [] (WX X a.2) 0 0 K) (fun go ih a h => ?_)
  obtain ⟨a2, S⟩ := a
  intro ha2
  show Go E M_Mo_appendBytes 0 0 3 [(0, .ref c0), (1, V a1), (2, V a2)] [] (WX X S) 0 0 K
  replace h : lb_Mo_appendBytes_3 c0 a1 go a2 S = some q := h
  unfold lb_Mo_appendBytes_3 at h
  refine g_iloadn (pc := 3) (i0 := 2) (j := 2) (dK D_Mo_appendBytes 2 rfl) rfl rfl ?_
  refine vg_if_lt (pc := 4) (t := 36) (dK D_Mo_appendBytes 3 rfl) rfl ha2 (fun hc5 => ?_) (fun hc5 => ?_)
  · replace h := ifP h hc5
    obtain rfl := Option.some.inj h
    refine gL_weak (ls' := []) sbn ?_
    exact hx 
  · replace h := ifN h hc5
    refine g_aloadn (pc := 7) (i0 := 0) (j := 0) (dK D_Mo_appendBytes 4 rfl) rfl rfl ?_
    refine vg_getA (pc := 8) (ci := 11) (f := 13) (dK D_Mo_appendBytes 5 rfl) q_1455 hc0 (ltK rfl) (ltK rfl) rfl ?_
    refine g_aloadn (pc := 11) (i0 := 0) (j := 0) (dK D_Mo_appendBytes 6 rfl) rfl rfl ?_
    refine vg_getI (pc := 12) (ci := 11) (f := 14) (dK D_Mo_appendBytes 7 rfl) q_1456 hc0 (ltK rfl) (ltK rfl) rfl ?_
    refine g_iloadn (pc := 15) (i0 := 1) (j := 1) (dK D_Mo_appendBytes 8 rfl) rfl rfl ?_
    refine g_iloadn (pc := 16) (i0 := 2) (j := 2) (dK D_Mo_appendBytes 9 rfl) rfl rfl ?_
    refine vg_ishr (pc := 17) (dK D_Mo_appendBytes 10 rfl) ?_
    refine vg_i2b (pc := 18) (dK D_Mo_appendBytes 11 rfl) ?_
    refine gdE h (fun hi1 h => ?_)
    refine nmE h (fun S2 e_S2 h => ?_)
    refine vg_bastore (pc := 19) (z := (i_b (i_shr a1 a2))) (dK D_Mo_appendBytes 12 rfl) (hw_11_13 hc0) rfl hi1 rfl e_S2 ?_
    refine g_aloadn (pc := 20) (i0 := 0) (j := 0) (dK D_Mo_appendBytes 13 rfl) rfl rfl ?_
    refine g_dup (pc := 21) (dK D_Mo_appendBytes 14 rfl) rfl ?_
    refine vg_getI (pc := 22) (ci := 11) (f := 14) (dK D_Mo_appendBytes 15 rfl) q_1456 hc0 (ltK rfl) (ltK rfl) rfl ?_
    refine vg_iconst (pc := 25) (dK D_Mo_appendBytes 16 rfl) ?_
    refine vg_iadd (pc := 26) (dK D_Mo_appendBytes 17 rfl) ?_
    refine nmE h (fun S3 e_S3 h => ?_)
    refine vg_putI (pc := 27) (ci := 11) (f := 14) (z := ((g S2 c0 14) + 1)) (dK D_Mo_appendBytes 18 rfl) q_1456 hc0 (ltK rfl) (ltK rfl) rfl rfl e_S3 ?_
    refine nmE h (fun v4 e_v4 h => ?_)
    refine vg_iinc (pc := 30) (j := 2) (a := a2) (z := -8) (ls2 := [(2, V v4), (0, .ref c0), (1, V a1)]) (dK D_Mo_appendBytes 19 rfl) rfl e_v4 (ltK rfl) rfl ?_
    refine g_goto (pc := 33) (tgt := 3) (dK D_Mo_appendBytes 20 rfl) rfl ?_
    refine gL_weak (ls' := [(0, .ref c0), (1, V a1), (2, V v4)]) (sbc 1 rfl (sbc 2 rfl (sbc 0 rfl sbn))) ?_
    replace h := ih _ h
    exact h (Vn_in e_v4)
def fn_Mo_appendBytes (c0 : Nat) (a1 : Int) (S : St) : Option (St) := bnO (lo_Mo_appendBytes_3 c0 a1 FU (24, S)) fun p6 => some p6
theorem tf_Mo_appendBytes {E : EV} {X : XT} {c0 : Nat} (hc0 : HC X 11 c0) {a1 : Int} (ha1 : inR a1) {S : St} {q : St} (h : fn_Mo_appendBytes c0 a1 S = some q) : Ev E M_Mo_appendBytes [.ref c0, V a1] (WX X S) 0 0 (KU X q) := by
  refine Ev.of pn_Mo rfl (leK rfl) ?_
  show Go E M_Mo_appendBytes 0 0 0 [(0, .ref c0), (1, V a1)] [] (WX X S) 0 0 (KU X q)
  unfold fn_Mo_appendBytes at h
  refine vg_bipush (pc := 0) (dK D_Mo_appendBytes 0 rfl) rfl ?_
  refine g_istoren (pc := 2) (i0 := 2) (ls2 := [(2, V 24), (0, .ref c0), (1, V a1)]) (dK D_Mo_appendBytes 1 rfl) rfl (ltK rfl) rfl ?_
  refine bnE h (fun p6 e_p6 h => ?_)
  refine gL_weak (ls' := [(0, .ref c0), (1, V a1), (2, V 24)]) (sbc 1 rfl (sbc 2 rfl (sbc 0 rfl sbn))) ?_
  refine tl_Mo_appendBytes_3 hc0 ha1 ?_ FU (24, S) e_p6 (inRk rfl)
  exact g_return (pc := 36) (dK D_Mo_appendBytes 21 rfl) rfl (leK rfl) (leK rfl) (fun _ => rfl) (by obtain rfl := Option.some.inj h; exact ⟨rfl, rfl⟩)
def fn_Mo_appendInput (c0 : Nat) (a1 : Int) (a2 : Int) (a3 : Int) (a4 : Int) (a5 : Int) (S : St) : Option (Int × St) := nm (u S c0 4 0) fun S1 => nm (wr ((g S1 c0 14) + 20)) fun v2 => if v2 ≤ 1600 then (bnO (fn_Mo_appendBytes c0 a1 S1) fun p3 => bnO (fn_Mo_appendBytes c0 a2 p3) fun p4 => bnO (fn_Mo_appendBytes c0 a3 p4) fun p5 => bnO (fn_Mo_appendBytes c0 a4 p5) fun p6 => bnO (fn_Mo_appendBytes c0 a5 p6) fun p7 => some ((g p7 c0 14), p7)) else (some ((-1), S1))
theorem tf_Mo_appendInput {E : EV} {X : XT} {c0 : Nat} (hc0 : HC X 11 c0) {a1 : Int} (ha1 : inR a1) {a2 : Int} (ha2 : inR a2) {a3 : Int} (ha3 : inR a3) {a4 : Int} (ha4 : inR a4) {a5 : Int} (ha5 : inR a5) {S : St} {q : Int × St} (h : fn_Mo_appendInput c0 a1 a2 a3 a4 a5 S = some q) : Ev E M_Mo_appendInput [.ref c0, V a1, V a2, V a3, V a4, V a5] (WX X S) 0 0 (KI X q.1 q.2) := by
  refine Ev.of pn_Mo rfl (leK rfl) ?_
  show Go E M_Mo_appendInput 0 0 0 [(0, .ref c0), (1, V a1), (2, V a2), (3, V a3), (4, V a4), (5, V a5)] [] (WX X S) 0 0 (KI X q.1 q.2)
  unfold fn_Mo_appendInput at h
  refine g_aloadn (pc := 0) (i0 := 0) (j := 0) (dK D_Mo_appendInput 0 rfl) rfl rfl ?_
  refine vg_iconst (pc := 1) (dK D_Mo_appendInput 1 rfl) ?_
  refine nmE h (fun S1 e_S1 h => ?_)
  refine vg_putI (pc := 2) (ci := 11) (f := 4) (z := 0) (dK D_Mo_appendInput 2 rfl) q_1446 hc0 (ltK rfl) (ltK rfl) rfl rfl e_S1 ?_
  refine g_aloadn (pc := 5) (i0 := 0) (j := 0) (dK D_Mo_appendInput 3 rfl) rfl rfl ?_
  refine vg_getI (pc := 6) (ci := 11) (f := 14) (dK D_Mo_appendInput 4 rfl) q_1456 hc0 (ltK rfl) (ltK rfl) rfl ?_
  refine vg_bipush (pc := 9) (dK D_Mo_appendInput 5 rfl) rfl ?_
  refine vg_iadd (pc := 11) (dK D_Mo_appendInput 6 rfl) ?_
  refine vg_sipush (pc := 12) (dK D_Mo_appendInput 7 rfl) rfl ?_
  refine nmE h (fun v2 e_v2 h => ?_)
  refine gsk (st' := [V 1600, V v2]) (by rw [Vn e_v2]) ?_
  refine vg_icmp_le (pc := 15) (t := 20) (dK D_Mo_appendInput 8 rfl) rfl (Vn_in e_v2) (inRk rfl) (fun hc8 => ?_) (fun hc8 => ?_)
  · replace h := ifP h hc8
    refine g_aloadn (pc := 20) (i0 := 0) (j := 0) (dK D_Mo_appendInput 11 rfl) rfl rfl ?_
    refine g_iloadn (pc := 21) (i0 := 1) (j := 1) (dK D_Mo_appendInput 12 rfl) rfl rfl ?_
    refine bnE h (fun p3 e_p3 h => ?_)
    refine vg_cV (pc := 22) (As := [V a1]) (rest := []) (mc' := 0) (ms' := 0) (dK D_Mo_appendInput 13 rfl) K_Mo_307 (fitK rfl) (ltK rfl) hc0 rfl (leK rfl) (leK rfl) (leK rfl) (tf_Mo_appendBytes hc0 ha1 e_p3) (kcU ?_)
    refine g_aloadn (pc := 25) (i0 := 0) (j := 0) (dK D_Mo_appendInput 14 rfl) rfl rfl ?_
    refine g_iloadn (pc := 26) (i0 := 2) (j := 2) (dK D_Mo_appendInput 15 rfl) rfl rfl ?_
    refine bnE h (fun p4 e_p4 h => ?_)
    refine vg_cV (pc := 27) (As := [V a2]) (rest := []) (mc' := 0) (ms' := 0) (dK D_Mo_appendInput 16 rfl) K_Mo_307 (fitK rfl) (ltK rfl) hc0 rfl (leK rfl) (leK rfl) (leK rfl) (tf_Mo_appendBytes hc0 ha2 e_p4) (kcU ?_)
    refine g_aloadn (pc := 30) (i0 := 0) (j := 0) (dK D_Mo_appendInput 17 rfl) rfl rfl ?_
    refine g_iloadn (pc := 31) (i0 := 3) (j := 3) (dK D_Mo_appendInput 18 rfl) rfl rfl ?_
    refine bnE h (fun p5 e_p5 h => ?_)
    refine vg_cV (pc := 32) (As := [V a3]) (rest := []) (mc' := 0) (ms' := 0) (dK D_Mo_appendInput 19 rfl) K_Mo_307 (fitK rfl) (ltK rfl) hc0 rfl (leK rfl) (leK rfl) (leK rfl) (tf_Mo_appendBytes hc0 ha3 e_p5) (kcU ?_)
    refine g_aloadn (pc := 35) (i0 := 0) (j := 0) (dK D_Mo_appendInput 20 rfl) rfl rfl ?_
    refine g_iload (pc := 36) (j := 4) (dK D_Mo_appendInput 21 rfl) rfl ?_
    refine bnE h (fun p6 e_p6 h => ?_)
    refine vg_cV (pc := 38) (As := [V a4]) (rest := []) (mc' := 0) (ms' := 0) (dK D_Mo_appendInput 22 rfl) K_Mo_307 (fitK rfl) (ltK rfl) hc0 rfl (leK rfl) (leK rfl) (leK rfl) (tf_Mo_appendBytes hc0 ha4 e_p6) (kcU ?_)
    refine g_aloadn (pc := 41) (i0 := 0) (j := 0) (dK D_Mo_appendInput 23 rfl) rfl rfl ?_
    refine g_iload (pc := 42) (j := 5) (dK D_Mo_appendInput 24 rfl) rfl ?_
    refine bnE h (fun p7 e_p7 h => ?_)
    refine vg_cV (pc := 44) (As := [V a5]) (rest := []) (mc' := 0) (ms' := 0) (dK D_Mo_appendInput 25 rfl) K_Mo_307 (fitK rfl) (ltK rfl) hc0 rfl (leK rfl) (leK rfl) (leK rfl) (tf_Mo_appendBytes hc0 ha5 e_p7) (kcU ?_)
    refine g_aloadn (pc := 47) (i0 := 0) (j := 0) (dK D_Mo_appendInput 26 rfl) rfl rfl ?_
    refine vg_getI (pc := 48) (ci := 11) (f := 14) (dK D_Mo_appendInput 27 rfl) q_1456 hc0 (ltK rfl) (ltK rfl) rfl ?_
    exact vg_iretI (pc := 51) (r := (g p7 c0 14)) (dK D_Mo_appendInput 28 rfl) rfl (leK rfl) (leK rfl) (fun _ => rfl) (by obtain rfl := Option.some.inj h; exact ⟨rfl, (g_in _ _ _), rfl⟩)
  · replace h := ifN h hc8
    refine vg_iconst (pc := 18) (dK D_Mo_appendInput 9 rfl) ?_
    exact vg_iretI (pc := 19) (r := (-1)) (dK D_Mo_appendInput 10 rfl) rfl (leK rfl) (leK rfl) (fun _ => rfl) (by obtain rfl := Option.some.inj h; exact ⟨rfl, (inRk rfl), rfl⟩)
def fn_Mo_truncateInput (c0 : Nat) (a1 : Int) (S : St) : Option (Int × St) := nm (u S c0 4 0) fun S1 => bnO (fn_Mo_inRange a1 0 (g S1 c0 14) S1) fun p2 => if p2 = true then (nm (u S1 c0 14 a1) fun S4 => some (a1, S4)) else (some ((-1), S1))
theorem tf_Mo_truncateInput {E : EV} {X : XT} {c0 : Nat} (hc0 : HC X 11 c0) {a1 : Int} (ha1 : inR a1) {S : St} {q : Int × St} (h : fn_Mo_truncateInput c0 a1 S = some q) : Ev E M_Mo_truncateInput [.ref c0, V a1] (WX X S) 0 0 (KI X q.1 q.2) := by
  refine Ev.of pn_Mo rfl (leK rfl) ?_
  show Go E M_Mo_truncateInput 0 0 0 [(0, .ref c0), (1, V a1)] [] (WX X S) 0 0 (KI X q.1 q.2)
  unfold fn_Mo_truncateInput at h
  refine g_aloadn (pc := 0) (i0 := 0) (j := 0) (dK D_Mo_truncateInput 0 rfl) rfl rfl ?_
  refine vg_iconst (pc := 1) (dK D_Mo_truncateInput 1 rfl) ?_
  refine nmE h (fun S1 e_S1 h => ?_)
  refine vg_putI (pc := 2) (ci := 11) (f := 4) (z := 0) (dK D_Mo_truncateInput 2 rfl) q_1446 hc0 (ltK rfl) (ltK rfl) rfl rfl e_S1 ?_
  refine g_iloadn (pc := 5) (i0 := 1) (j := 1) (dK D_Mo_truncateInput 3 rfl) rfl rfl ?_
  refine vg_i2l (pc := 6) (dK D_Mo_truncateInput 4 rfl) ha1 ?_
  refine vg_lconst (pc := 7) (y := 0) (dK D_Mo_truncateInput 5 rfl) rfl ?_
  refine g_aloadn (pc := 8) (i0 := 0) (j := 0) (dK D_Mo_truncateInput 6 rfl) rfl rfl ?_
  refine vg_getI (pc := 9) (ci := 11) (f := 14) (dK D_Mo_truncateInput 7 rfl) q_1456 hc0 (ltK rfl) (ltK rfl) rfl ?_
  refine vg_i2l (pc := 12) (dK D_Mo_truncateInput 8 rfl) (g_in _ _ _) ?_
  refine bnE h (fun p2 e_p2 h => ?_)
  refine vg_cS (pc := 13) (As := [J a1, J 0, J (g S1 c0 14)]) (rest := []) (mc' := 0) (ms' := 0) (dK D_Mo_truncateInput 9 rfl) K_Mo_67 (fitK rfl) rfl (leK rfl) (leK rfl) (leK rfl) (tf_Mo_inRange (inR_L ha1) (inLk rfl) (inR_L (g_in _ _ _)) e_p2) (kcB ?_)
  refine vg_ifB_ne (pc := 16) (b := p2) (t := 21) (dK D_Mo_truncateInput 10 rfl) rfl (fun hc3 => ?_) (fun hc3 => ?_)
  · replace h := ifP h hc3
    refine g_aloadn (pc := 21) (i0 := 0) (j := 0) (dK D_Mo_truncateInput 13 rfl) rfl rfl ?_
    refine g_iloadn (pc := 22) (i0 := 1) (j := 1) (dK D_Mo_truncateInput 14 rfl) rfl rfl ?_
    refine nmE h (fun S4 e_S4 h => ?_)
    refine vg_putI (pc := 23) (ci := 11) (f := 14) (z := a1) (dK D_Mo_truncateInput 15 rfl) q_1456 hc0 (ltK rfl) (ltK rfl) rfl rfl e_S4 ?_
    refine g_iloadn (pc := 26) (i0 := 1) (j := 1) (dK D_Mo_truncateInput 16 rfl) rfl rfl ?_
    exact vg_iretI (pc := 27) (r := a1) (dK D_Mo_truncateInput 17 rfl) rfl (leK rfl) (leK rfl) (fun _ => rfl) (by obtain rfl := Option.some.inj h; exact ⟨rfl, ha1, rfl⟩)
  · replace h := ifN h hc3
    refine vg_iconst (pc := 19) (dK D_Mo_truncateInput 11 rfl) ?_
    exact vg_iretI (pc := 20) (r := (-1)) (dK D_Mo_truncateInput 12 rfl) rfl (leK rfl) (leK rfl) (fun _ => rfl) (by obtain rfl := Option.some.inj h; exact ⟨rfl, (inRk rfl), rfl⟩)
def fn_Mo_errorCode (c0 : Nat) (S : St) : Option (Int × St) := nm (u S c0 4 0) fun S1 => some ((g S1 c0 16), S1)
theorem tf_Mo_errorCode {E : EV} {X : XT} {c0 : Nat} (hc0 : HC X 11 c0) {S : St} {q : Int × St} (h : fn_Mo_errorCode c0 S = some q) : Ev E M_Mo_errorCode [.ref c0] (WX X S) 0 0 (KI X q.1 q.2) := by
  refine Ev.of pn_Mo rfl (leK rfl) ?_
  show Go E M_Mo_errorCode 0 0 0 [(0, .ref c0)] [] (WX X S) 0 0 (KI X q.1 q.2)
  unfold fn_Mo_errorCode at h
  refine g_aloadn (pc := 0) (i0 := 0) (j := 0) (dK D_Mo_errorCode 0 rfl) rfl rfl ?_
  refine vg_iconst (pc := 1) (dK D_Mo_errorCode 1 rfl) ?_
  refine nmE h (fun S1 e_S1 h => ?_)
  refine vg_putI (pc := 2) (ci := 11) (f := 4) (z := 0) (dK D_Mo_errorCode 2 rfl) q_1446 hc0 (ltK rfl) (ltK rfl) rfl rfl e_S1 ?_
  refine g_aloadn (pc := 5) (i0 := 0) (j := 0) (dK D_Mo_errorCode 3 rfl) rfl rfl ?_
  refine vg_getI (pc := 6) (ci := 11) (f := 16) (dK D_Mo_errorCode 4 rfl) q_1458 hc0 (ltK rfl) (ltK rfl) rfl ?_
  exact vg_iretI (pc := 9) (r := (g S1 c0 16)) (dK D_Mo_errorCode 5 rfl) rfl (leK rfl) (leK rfl) (fun _ => rfl) (by obtain rfl := Option.some.inj h; exact ⟨rfl, (g_in _ _ _), rfl⟩)
def fn_Mo_errorPosition (c0 : Nat) (S : St) : Option (Int × St) := nm (u S c0 4 0) fun S1 => some ((g S1 c0 17), S1)
theorem tf_Mo_errorPosition {E : EV} {X : XT} {c0 : Nat} (hc0 : HC X 11 c0) {S : St} {q : Int × St} (h : fn_Mo_errorPosition c0 S = some q) : Ev E M_Mo_errorPosition [.ref c0] (WX X S) 0 0 (KI X q.1 q.2) := by
  refine Ev.of pn_Mo rfl (leK rfl) ?_
  show Go E M_Mo_errorPosition 0 0 0 [(0, .ref c0)] [] (WX X S) 0 0 (KI X q.1 q.2)
  unfold fn_Mo_errorPosition at h
  refine g_aloadn (pc := 0) (i0 := 0) (j := 0) (dK D_Mo_errorPosition 0 rfl) rfl rfl ?_
  refine vg_iconst (pc := 1) (dK D_Mo_errorPosition 1 rfl) ?_
  refine nmE h (fun S1 e_S1 h => ?_)
  refine vg_putI (pc := 2) (ci := 11) (f := 4) (z := 0) (dK D_Mo_errorPosition 2 rfl) q_1446 hc0 (ltK rfl) (ltK rfl) rfl rfl e_S1 ?_
  refine g_aloadn (pc := 5) (i0 := 0) (j := 0) (dK D_Mo_errorPosition 3 rfl) rfl rfl ?_
  refine vg_getI (pc := 6) (ci := 11) (f := 17) (dK D_Mo_errorPosition 4 rfl) q_1459 hc0 (ltK rfl) (ltK rfl) rfl ?_
  exact vg_iretI (pc := 9) (r := (g S1 c0 17)) (dK D_Mo_errorPosition 5 rfl) rfl (leK rfl) (leK rfl) (fun _ => rfl) (by obtain rfl := Option.some.inj h; exact ⟨rfl, (g_in _ _ _), rfl⟩)
def fn_Mo_byteAt (c0 : Nat) (a1 : Int) (S : St) : Option (Int) := if (g S c0 14) ≤ a1 then (some (-1)) else (if 0 ≤ a1 ∧ a1 < 1600 then (some (i_and (g S (tgt c0 13) a1.toNat) 255)) else none)
theorem tf_Mo_byteAt {E : EV} {X : XT} {c0 : Nat} (hc0 : HC X 11 c0) {a1 : Int} (ha1 : inR a1) {S : St} {q : Int} (h : fn_Mo_byteAt c0 a1 S = some q) : Ev E M_Mo_byteAt [.ref c0, V a1] (WX X S) 0 0 (KI X q S) := by
  refine Ev.of pn_Mo rfl (leK rfl) ?_
  show Go E M_Mo_byteAt 0 0 0 [(0, .ref c0), (1, V a1)] [] (WX X S) 0 0 (KI X q S)
  unfold fn_Mo_byteAt at h
  refine g_iloadn (pc := 0) (i0 := 1) (j := 1) (dK D_Mo_byteAt 0 rfl) rfl rfl ?_
  refine g_aloadn (pc := 1) (i0 := 0) (j := 0) (dK D_Mo_byteAt 1 rfl) rfl rfl ?_
  refine vg_getI (pc := 2) (ci := 11) (f := 14) (dK D_Mo_byteAt 2 rfl) q_1456 hc0 (ltK rfl) (ltK rfl) rfl ?_
  refine vg_icmp_ge (pc := 5) (t := 21) (dK D_Mo_byteAt 3 rfl) rfl ha1 (g_in _ _ _) (fun hc2 => ?_) (fun hc2 => ?_)
  · replace h := ifP h hc2
    refine vg_iconst (pc := 21) (dK D_Mo_byteAt 11 rfl) ?_
    exact vg_iretI (pc := 22) (r := (-1)) (dK D_Mo_byteAt 12 rfl) rfl (leK rfl) (leK rfl) (fun _ => rfl) (by obtain rfl := Option.some.inj h; exact ⟨rfl, (inRk rfl), rfl⟩)
  · replace h := ifN h hc2
    refine g_aloadn (pc := 8) (i0 := 0) (j := 0) (dK D_Mo_byteAt 4 rfl) rfl rfl ?_
    refine vg_getA (pc := 9) (ci := 11) (f := 13) (dK D_Mo_byteAt 5 rfl) q_1455 hc0 (ltK rfl) (ltK rfl) rfl ?_
    refine g_iloadn (pc := 12) (i0 := 1) (j := 1) (dK D_Mo_byteAt 6 rfl) rfl rfl ?_
    refine gdE h (fun hi1 h => ?_)
    refine vg_baload (pc := 13) (j := a1.toNat) (dK D_Mo_byteAt 7 rfl) (hw_11_13 hc0) rfl hi1 rfl ?_
    refine vg_sipush (pc := 14) (dK D_Mo_byteAt 8 rfl) rfl ?_
    refine vg_iand (pc := 17) (dK D_Mo_byteAt 9 rfl) ?_
    refine g_goto (pc := 18) (tgt := 22) (dK D_Mo_byteAt 10 rfl) rfl ?_
    exact vg_iretI (pc := 22) (r := (i_and (g S (tgt c0 13) a1.toNat) 255)) (dK D_Mo_byteAt 12 rfl) rfl (leK rfl) (leK rfl) (fun _ => rfl) (by obtain rfl := Option.some.inj h; exact ⟨rfl, (toInt_in _), rfl⟩)
def fn_Mo_isLetter (a0 : Int) (S : St) : Option (Bool) := bnO (fn_Mo_inRange a0 97 122 S) fun p1 => some p1
theorem tf_Mo_isLetter {E : EV} {X : XT} {a0 : Int} (ha0 : inR a0) {S : St} {q : Bool} (h : fn_Mo_isLetter a0 S = some q) : Ev E M_Mo_isLetter [V a0] (WX X S) 0 0 (KB X q S) := by
  refine Ev.of pn_Mo rfl (leK rfl) ?_
  show Go E M_Mo_isLetter 0 0 0 [(0, V a0)] [] (WX X S) 0 0 (KB X q S)
  unfold fn_Mo_isLetter at h
  refine g_iloadn (pc := 0) (i0 := 0) (j := 0) (dK D_Mo_isLetter 0 rfl) rfl rfl ?_
  refine vg_i2l (pc := 1) (dK D_Mo_isLetter 1 rfl) ha0 ?_
  refine vg_ldc2 (pc := 2) (y := 97) (dK D_Mo_isLetter 2 rfl) q_2054 rfl ?_
  refine vg_ldc2 (pc := 5) (y := 122) (dK D_Mo_isLetter 3 rfl) q_2055 rfl ?_
  refine bnE h (fun p1 e_p1 h => ?_)
  refine vg_cS (pc := 8) (As := [J a0, J 97, J 122]) (rest := []) (mc' := 0) (ms' := 0) (dK D_Mo_isLetter 4 rfl) K_Mo_67 (fitK rfl) rfl (leK rfl) (leK rfl) (leK rfl) (tf_Mo_inRange (inR_L ha0) (inLk rfl) (inLk rfl) e_p1) (kcB ?_)
  exact vg_iretB (pc := 11) (b := p1) (dK D_Mo_isLetter 5 rfl) rfl (leK rfl) (leK rfl) (fun _ => rfl) (by obtain rfl := Option.some.inj h; exact ⟨rfl, rfl⟩)
def fn_Mo_isDigit (a0 : Int) (S : St) : Option (Bool) := bnO (fn_Mo_inRange a0 48 57 S) fun p1 => some p1
theorem tf_Mo_isDigit {E : EV} {X : XT} {a0 : Int} (ha0 : inR a0) {S : St} {q : Bool} (h : fn_Mo_isDigit a0 S = some q) : Ev E M_Mo_isDigit [V a0] (WX X S) 0 0 (KB X q S) := by
  refine Ev.of pn_Mo rfl (leK rfl) ?_
  show Go E M_Mo_isDigit 0 0 0 [(0, V a0)] [] (WX X S) 0 0 (KB X q S)
  unfold fn_Mo_isDigit at h
  refine g_iloadn (pc := 0) (i0 := 0) (j := 0) (dK D_Mo_isDigit 0 rfl) rfl rfl ?_
  refine vg_i2l (pc := 1) (dK D_Mo_isDigit 1 rfl) ha0 ?_
  refine vg_ldc2 (pc := 2) (y := 48) (dK D_Mo_isDigit 2 rfl) q_2059 rfl ?_
  refine vg_ldc2 (pc := 5) (y := 57) (dK D_Mo_isDigit 3 rfl) q_2060 rfl ?_
  refine bnE h (fun p1 e_p1 h => ?_)
  refine vg_cS (pc := 8) (As := [J a0, J 48, J 57]) (rest := []) (mc' := 0) (ms' := 0) (dK D_Mo_isDigit 4 rfl) K_Mo_67 (fitK rfl) rfl (leK rfl) (leK rfl) (leK rfl) (tf_Mo_inRange (inR_L ha0) (inLk rfl) (inLk rfl) e_p1) (kcB ?_)
  exact vg_iretB (pc := 11) (b := p1) (dK D_Mo_isDigit 5 rfl) rfl (leK rfl) (leK rfl) (fun _ => rfl) (by obtain rfl := Option.some.inj h; exact ⟨rfl, rfl⟩)
def lb_Mo_advance_0 (c0 : Nat) (go : St → Option (St))  (S : St) : Option (St) := bnO (fn_Mo_byteAt c0 (g S c0 15) S) fun p1 => if p1 = 32 then (nm (u S c0 15 ((g S c0 15) + 1)) fun S2 => go S2) else (bnO (fn_Mo_byteAt c0 (g S c0 15) S) fun p3 => if p3 = 10 then (nm (u S c0 15 ((g S c0 15) + 1)) fun S4 => go S4) else (some S))
def lo_Mo_advance_0 (c0 : Nat) : Nat → St → Option (St) := lp fun go p => lb_Mo_advance_0 c0 go p
theorem tl_Mo_advance_0 {E : EV} {X : XT} {c0 : Nat} (hc0 : HC X 11 c0) {K : RK → PS → Prop} {q : St} (hx : Go E M_Mo_advance 0 0 39 [(0, .ref c0)] [] (WX X q) 0 0 K) : ∀ n a, lo_Mo_advance_0 c0 n a = some q → Go E M_Mo_advance 0 0 0 [(0, .ref c0)] [] (WX X a) 0 0 K := by
  refine lp_ind (P := fun a : St => Go E M_Mo_advance 0 0 0 [(0, .ref c0)] [] (WX X a) 0 0 K) (fun go ih S h => ?_)
  show Go E M_Mo_advance 0 0 0 [(0, .ref c0)] [] (WX X S) 0 0 K
  replace h : lb_Mo_advance_0 c0 go S = some q := h
  unfold lb_Mo_advance_0 at h
  refine g_aloadn (pc := 0) (i0 := 0) (j := 0) (dK D_Mo_advance_0 0 rfl) rfl rfl ?_
  refine g_aloadn (pc := 1) (i0 := 0) (j := 0) (dK D_Mo_advance_0 1 rfl) rfl rfl ?_
  refine vg_getI (pc := 2) (ci := 11) (f := 15) (dK D_Mo_advance_0 2 rfl) q_1457 hc0 (ltK rfl) (ltK rfl) rfl ?_
  refine bnE h (fun p1 e_p1 h => ?_)
  refine vg_cV (pc := 5) (As := [V (g S c0 15)]) (rest := []) (mc' := 0) (ms' := 0) (dK D_Mo_advance_0 3 rfl) K_Mo_324 (fitK rfl) (ltK rfl) hc0 rfl (leK rfl) (leK rfl) (leK rfl) (tf_Mo_byteAt hc0 (g_in _ _ _) e_p1) (kcI (fun h_p1 => ?_))
  refine vg_bipush (pc := 8) (dK D_Mo_advance_0 4 rfl) rfl ?_
  refine vg_icmp_eq (pc := 10) (t := 26) (dK D_Mo_advance_0 5 rfl) rfl h_p1 (inRk rfl) (fun hc6 => ?_) (fun hc6 => ?_)
  · replace h := ifP h hc6
    refine g_aloadn (pc := 26) (i0 := 0) (j := 0) (dK D_Mo_advance_0 12 rfl) rfl rfl ?_
    refine g_dup (pc := 27) (dK D_Mo_advance_0 13 rfl) rfl ?_
    refine vg_getI (pc := 28) (ci := 11) (f := 15) (dK D_Mo_advance_0 14 rfl) q_1457 hc0 (ltK rfl) (ltK rfl) rfl ?_
    refine vg_iconst (pc := 31) (dK D_Mo_advance_0 15 rfl) ?_
    refine vg_iadd (pc := 32) (dK D_Mo_advance_0 16 rfl) ?_
    refine nmE h (fun S2 e_S2 h => ?_)
    refine vg_putI (pc := 33) (ci := 11) (f := 15) (z := ((g S c0 15) + 1)) (dK D_Mo_advance_0 17 rfl) q_1457 hc0 (ltK rfl) (ltK rfl) rfl rfl e_S2 ?_
    refine g_goto (pc := 36) (tgt := 0) (dK D_Mo_advance_0 18 rfl) rfl ?_
    replace h := ih _ h
    exact h 
  · replace h := ifN h hc6
    refine g_aloadn (pc := 13) (i0 := 0) (j := 0) (dK D_Mo_advance_0 6 rfl) rfl rfl ?_
    refine g_aloadn (pc := 14) (i0 := 0) (j := 0) (dK D_Mo_advance_0 7 rfl) rfl rfl ?_
    refine vg_getI (pc := 15) (ci := 11) (f := 15) (dK D_Mo_advance_0 8 rfl) q_1457 hc0 (ltK rfl) (ltK rfl) rfl ?_
    refine bnE h (fun p3 e_p3 h => ?_)
    refine vg_cV (pc := 18) (As := [V (g S c0 15)]) (rest := []) (mc' := 0) (ms' := 0) (dK D_Mo_advance_0 9 rfl) K_Mo_324 (fitK rfl) (ltK rfl) hc0 rfl (leK rfl) (leK rfl) (leK rfl) (tf_Mo_byteAt hc0 (g_in _ _ _) e_p3) (kcI (fun h_p3 => ?_))
    refine vg_bipush (pc := 21) (dK D_Mo_advance_0 10 rfl) rfl ?_
    refine vg_icmp_ne (pc := 23) (t := 39) (dK D_Mo_advance_0 11 rfl) rfl h_p3 (inRk rfl) (fun hc5 => ?_) (fun hc5 => ?_)
    · replace h := ifN h hc5
      obtain rfl := Option.some.inj h
      exact hx 
    · replace h := ifP h hc5
      refine g_aloadn (pc := 26) (i0 := 0) (j := 0) (dK D_Mo_advance_0 12 rfl) rfl rfl ?_
      refine g_dup (pc := 27) (dK D_Mo_advance_0 13 rfl) rfl ?_
      refine vg_getI (pc := 28) (ci := 11) (f := 15) (dK D_Mo_advance_0 14 rfl) q_1457 hc0 (ltK rfl) (ltK rfl) rfl ?_
      refine vg_iconst (pc := 31) (dK D_Mo_advance_0 15 rfl) ?_
      refine vg_iadd (pc := 32) (dK D_Mo_advance_0 16 rfl) ?_
      refine nmE h (fun S4 e_S4 h => ?_)
      refine vg_putI (pc := 33) (ci := 11) (f := 15) (z := ((g S c0 15) + 1)) (dK D_Mo_advance_0 17 rfl) q_1457 hc0 (ltK rfl) (ltK rfl) rfl rfl e_S4 ?_
      refine g_goto (pc := 36) (tgt := 0) (dK D_Mo_advance_0 18 rfl) rfl ?_
      replace h := ih _ h
      exact h 
def lb_Mo_advance_125 (c0 : Nat) (go : St → Option (St))  (S : St) : Option (St) := if (g S c0 18) = 1 then (bnO (fn_Mo_byteAt c0 (g S c0 15) S) fun p16 => bnO (fn_Mo_isLetter p16 S) fun p17 => if p17 = true then (nm (wr ((g S c0 15) - (g S c0 19))) fun v19 => if 8 ≤ v19 then (nm (u S c0 15 ((g S c0 15) + 1)) fun S20 => go S20) else (bnO (fn_Mo_byteAt c0 (g S c0 15) S) fun p21 => nm (ul S c0 21 ((((gl S c0 21) * 32) + p21) - 96)) fun S22 => nm (u S22 c0 15 ((g S22 c0 15) + 1)) fun S23 => go S23)) else (some S)) else (some S)
def lo_Mo_advance_125 (c0 : Nat) : Nat → St → Option (St) := lp fun go p => lb_Mo_advance_125 c0 go p
theorem tl_Mo_advance_125 {E : EV} {X : XT} {c0 : Nat} (hc0 : HC X 11 c0) {K : RK → PS → Prop} {q : St} (hx : Go E M_Mo_advance 0 0 200 [(0, .ref c0)] [] (WX X q) 0 0 K) : ∀ n a, lo_Mo_advance_125 c0 n a = some q → Go E M_Mo_advance 0 0 125 [(0, .ref c0)] [] (WX X a) 0 0 K := by
  refine lp_ind (P := fun a : St => Go E M_Mo_advance 0 0 125 [(0, .ref c0)] [] (WX X a) 0 0 K) (fun go ih S h => ?_)
  show Go E M_Mo_advance 0 0 125 [(0, .ref c0)] [] (WX X S) 0 0 K
  replace h : lb_Mo_advance_125 c0 go S = some q := h
  unfold lb_Mo_advance_125 at h
  refine g_aloadn (pc := 125) (i0 := 0) (j := 0) (dK D_Mo_advance_1 14 rfl) rfl rfl ?_
  refine vg_getI (pc := 126) (ci := 11) (f := 18) (dK D_Mo_advance_1 15 rfl) q_1460 hc0 (ltK rfl) (ltK rfl) rfl ?_
  refine vg_iconst (pc := 129) (dK D_Mo_advance_1 16 rfl) ?_
  refine vg_icmp_ne (pc := 130) (t := 200) (dK D_Mo_advance_1 17 rfl) rfl (g_in _ _ _) (inRk rfl) (fun hc25 => ?_) (fun hc25 => ?_)
  · replace h := ifN h hc25
    obtain rfl := Option.some.inj h
    exact hx 
  · replace h := ifP h hc25
    refine g_aloadn (pc := 133) (i0 := 0) (j := 0) (dK D_Mo_advance_1 18 rfl) rfl rfl ?_
    refine g_aloadn (pc := 134) (i0 := 0) (j := 0) (dK D_Mo_advance_1 19 rfl) rfl rfl ?_
    refine vg_getI (pc := 135) (ci := 11) (f := 15) (dK D_Mo_advance_1 20 rfl) q_1457 hc0 (ltK rfl) (ltK rfl) rfl ?_
    refine bnE h (fun p16 e_p16 h => ?_)
    refine vg_cV (pc := 138) (As := [V (g S c0 15)]) (rest := []) (mc' := 0) (ms' := 0) (dK D_Mo_advance_1 21 rfl) K_Mo_324 (fitK rfl) (ltK rfl) hc0 rfl (leK rfl) (leK rfl) (leK rfl) (tf_Mo_byteAt hc0 (g_in _ _ _) e_p16) (kcI (fun h_p16 => ?_))
    refine bnE h (fun p17 e_p17 h => ?_)
    refine vg_cS (pc := 141) (As := [V p16]) (rest := []) (mc' := 0) (ms' := 0) (dK D_Mo_advance_1 22 rfl) K_Mo_334 (fitK rfl) rfl (leK rfl) (leK rfl) (leK rfl) (tf_Mo_isLetter h_p16 e_p17) (kcB ?_)
    refine vg_ifB_eq (pc := 144) (b := p17) (t := 200) (dK D_Mo_advance_1 23 rfl) rfl (fun hc18 => ?_) (fun hc18 => ?_)
    · replace h := ifP h hc18
      refine g_aloadn (pc := 147) (i0 := 0) (j := 0) (dK D_Mo_advance_1 24 rfl) rfl rfl ?_
      refine vg_getI (pc := 148) (ci := 11) (f := 15) (dK D_Mo_advance_1 25 rfl) q_1457 hc0 (ltK rfl) (ltK rfl) rfl ?_
      refine g_aloadn (pc := 151) (i0 := 0) (j := 0) (dK D_Mo_advance_1 26 rfl) rfl rfl ?_
      refine vg_getI (pc := 152) (ci := 11) (f := 19) (dK D_Mo_advance_1 27 rfl) q_1461 hc0 (ltK rfl) (ltK rfl) rfl ?_
      refine vg_isub (pc := 155) (dK D_Mo_advance_1 28 rfl) ?_
      refine vg_bipush (pc := 156) (dK D_Mo_advance_1 29 rfl) rfl ?_
      refine nmE h (fun v19 e_v19 h => ?_)
      refine gsk (st' := [V 8, V v19]) (by rw [Vn e_v19]) ?_
      refine vg_icmp_ge (pc := 158) (t := 187) (dK D_Mo_advance_1 30 rfl) rfl (Vn_in e_v19) (inRk rfl) (fun hc24 => ?_) (fun hc24 => ?_)
      · replace h := ifP h hc24
        refine g_aloadn (pc := 187) (i0 := 0) (j := 0) (dK D_Mo_advance_1 45 rfl) rfl rfl ?_
        refine g_dup (pc := 188) (dK D_Mo_advance_1 46 rfl) rfl ?_
        refine vg_getI (pc := 189) (ci := 11) (f := 15) (dK D_Mo_advance_1 47 rfl) q_1457 hc0 (ltK rfl) (ltK rfl) rfl ?_
        refine vg_iconst (pc := 192) (dK D_Mo_advance_1 48 rfl) ?_
        refine vg_iadd (pc := 193) (dK D_Mo_advance_1 49 rfl) ?_
        refine nmE h (fun S20 e_S20 h => ?_)
        refine vg_putI (pc := 194) (ci := 11) (f := 15) (z := ((g S c0 15) + 1)) (dK D_Mo_advance_2 0 rfl) q_1457 hc0 (ltK rfl) (ltK rfl) rfl rfl e_S20 ?_
        refine g_goto (pc := 197) (tgt := 125) (dK D_Mo_advance_2 1 rfl) rfl ?_
        replace h := ih _ h
        exact h 
      · replace h := ifN h hc24
        refine g_aloadn (pc := 161) (i0 := 0) (j := 0) (dK D_Mo_advance_1 31 rfl) rfl rfl ?_
        refine g_aloadn (pc := 162) (i0 := 0) (j := 0) (dK D_Mo_advance_1 32 rfl) rfl rfl ?_
        refine vg_getL (pc := 163) (ci := 11) (f := 21) (dK D_Mo_advance_1 33 rfl) q_1463 hc0 (ltK rfl) (ltK rfl) rfl ?_
        refine vg_ldc2 (pc := 166) (y := 32) (dK D_Mo_advance_1 34 rfl) q_2061 rfl ?_
        refine vg_lmul (pc := 169) (dK D_Mo_advance_1 35 rfl) ?_
        refine g_aloadn (pc := 170) (i0 := 0) (j := 0) (dK D_Mo_advance_1 36 rfl) rfl rfl ?_
        refine g_aloadn (pc := 171) (i0 := 0) (j := 0) (dK D_Mo_advance_1 37 rfl) rfl rfl ?_
        refine vg_getI (pc := 172) (ci := 11) (f := 15) (dK D_Mo_advance_1 38 rfl) q_1457 hc0 (ltK rfl) (ltK rfl) rfl ?_
        refine bnE h (fun p21 e_p21 h => ?_)
        refine vg_cV (pc := 175) (As := [V (g S c0 15)]) (rest := [J ((gl S c0 21) * 32), .ref c0]) (mc' := 0) (ms' := 0) (dK D_Mo_advance_1 39 rfl) K_Mo_324 (fitK rfl) (ltK rfl) hc0 rfl (leK rfl) (leK rfl) (leK rfl) (tf_Mo_byteAt hc0 (g_in _ _ _) e_p21) (kcI (fun h_p21 => ?_))
        refine vg_i2l (pc := 178) (dK D_Mo_advance_1 40 rfl) h_p21 ?_
        refine vg_ladd (pc := 179) (dK D_Mo_advance_1 41 rfl) ?_
        refine vg_ldc2 (pc := 180) (y := 96) (dK D_Mo_advance_1 42 rfl) q_2062 rfl ?_
        refine vg_lsub (pc := 183) (dK D_Mo_advance_1 43 rfl) ?_
        refine nmE h (fun S22 e_S22 h => ?_)
        refine vg_putL (pc := 184) (ci := 11) (f := 21) (z := ((((gl S c0 21) * 32) + p21) - 96)) (dK D_Mo_advance_1 44 rfl) q_1463 hc0 (ltK rfl) (ltK rfl) rfl rfl e_S22 ?_
        refine g_aloadn (pc := 187) (i0 := 0) (j := 0) (dK D_Mo_advance_1 45 rfl) rfl rfl ?_
        refine g_dup (pc := 188) (dK D_Mo_advance_1 46 rfl) rfl ?_
        refine vg_getI (pc := 189) (ci := 11) (f := 15) (dK D_Mo_advance_1 47 rfl) q_1457 hc0 (ltK rfl) (ltK rfl) rfl ?_
        refine vg_iconst (pc := 192) (dK D_Mo_advance_1 48 rfl) ?_
        refine vg_iadd (pc := 193) (dK D_Mo_advance_1 49 rfl) ?_
        refine nmE h (fun S23 e_S23 h => ?_)
        refine vg_putI (pc := 194) (ci := 11) (f := 15) (z := ((g S22 c0 15) + 1)) (dK D_Mo_advance_2 0 rfl) q_1457 hc0 (ltK rfl) (ltK rfl) rfl rfl e_S23 ?_
        refine g_goto (pc := 197) (tgt := 125) (dK D_Mo_advance_2 1 rfl) rfl ?_
        replace h := ih _ h
        exact h 
    · replace h := ifN h hc18
      obtain rfl := Option.some.inj h
      exact hx 
def lb_Mo_advance_200 (c0 : Nat) (go : St → Option (St))  (S : St) : Option (St) := if (g S c0 18) = 2 then (bnO (fn_Mo_byteAt c0 (g S c0 15) S) fun p27 => bnO (fn_Mo_isDigit p27 S) fun p28 => if p28 = true then (nm (wr ((g S c0 15) - (g S c0 19))) fun v30 => if 4 ≤ v30 then (nm (u S c0 15 ((g S c0 15) + 1)) fun S31 => go S31) else (bnO (fn_Mo_byteAt c0 (g S c0 15) S) fun p32 => nm (ul S c0 21 ((((gl S c0 21) * 10) + p32) - 48)) fun S33 => nm (u S33 c0 15 ((g S33 c0 15) + 1)) fun S34 => go S34)) else (some S)) else (some S)
def lo_Mo_advance_200 (c0 : Nat) : Nat → St → Option (St) := lp fun go p => lb_Mo_advance_200 c0 go p
theorem tl_Mo_advance_200 {E : EV} {X : XT} {c0 : Nat} (hc0 : HC X 11 c0) {K : RK → PS → Prop} {q : St} (hx : Go E M_Mo_advance 0 0 274 [(0, .ref c0)] [] (WX X q) 0 0 K) : ∀ n a, lo_Mo_advance_200 c0 n a = some q → Go E M_Mo_advance 0 0 200 [(0, .ref c0)] [] (WX X a) 0 0 K := by
  refine lp_ind (P := fun a : St => Go E M_Mo_advance 0 0 200 [(0, .ref c0)] [] (WX X a) 0 0 K) (fun go ih S h => ?_)
  show Go E M_Mo_advance 0 0 200 [(0, .ref c0)] [] (WX X S) 0 0 K
  replace h : lb_Mo_advance_200 c0 go S = some q := h
  unfold lb_Mo_advance_200 at h
  refine g_aloadn (pc := 200) (i0 := 0) (j := 0) (dK D_Mo_advance_2 2 rfl) rfl rfl ?_
  refine vg_getI (pc := 201) (ci := 11) (f := 18) (dK D_Mo_advance_2 3 rfl) q_1460 hc0 (ltK rfl) (ltK rfl) rfl ?_
  refine vg_iconst (pc := 204) (dK D_Mo_advance_2 4 rfl) ?_
  refine vg_icmp_ne (pc := 205) (t := 274) (dK D_Mo_advance_2 5 rfl) rfl (g_in _ _ _) (inRk rfl) (fun hc36 => ?_) (fun hc36 => ?_)
  · replace h := ifN h hc36
    obtain rfl := Option.some.inj h
    exact hx 
  · replace h := ifP h hc36
    refine g_aloadn (pc := 208) (i0 := 0) (j := 0) (dK D_Mo_advance_2 6 rfl) rfl rfl ?_
    refine g_aloadn (pc := 209) (i0 := 0) (j := 0) (dK D_Mo_advance_2 7 rfl) rfl rfl ?_
    refine vg_getI (pc := 210) (ci := 11) (f := 15) (dK D_Mo_advance_2 8 rfl) q_1457 hc0 (ltK rfl) (ltK rfl) rfl ?_
    refine bnE h (fun p27 e_p27 h => ?_)
    refine vg_cV (pc := 213) (As := [V (g S c0 15)]) (rest := []) (mc' := 0) (ms' := 0) (dK D_Mo_advance_2 9 rfl) K_Mo_324 (fitK rfl) (ltK rfl) hc0 rfl (leK rfl) (leK rfl) (leK rfl) (tf_Mo_byteAt hc0 (g_in _ _ _) e_p27) (kcI (fun h_p27 => ?_))
    refine bnE h (fun p28 e_p28 h => ?_)
    refine vg_cS (pc := 216) (As := [V p27]) (rest := []) (mc' := 0) (ms' := 0) (dK D_Mo_advance_2 10 rfl) K_Mo_337 (fitK rfl) rfl (leK rfl) (leK rfl) (leK rfl) (tf_Mo_isDigit h_p27 e_p28) (kcB ?_)
    refine vg_ifB_eq (pc := 219) (b := p28) (t := 274) (dK D_Mo_advance_2 11 rfl) rfl (fun hc29 => ?_) (fun hc29 => ?_)
    · replace h := ifP h hc29
      refine g_aloadn (pc := 222) (i0 := 0) (j := 0) (dK D_Mo_advance_2 12 rfl) rfl rfl ?_
      refine vg_getI (pc := 223) (ci := 11) (f := 15) (dK D_Mo_advance_2 13 rfl) q_1457 hc0 (ltK rfl) (ltK rfl) rfl ?_
      refine g_aloadn (pc := 226) (i0 := 0) (j := 0) (dK D_Mo_advance_2 14 rfl) rfl rfl ?_
      refine vg_getI (pc := 227) (ci := 11) (f := 19) (dK D_Mo_advance_2 15 rfl) q_1461 hc0 (ltK rfl) (ltK rfl) rfl ?_
      refine vg_isub (pc := 230) (dK D_Mo_advance_2 16 rfl) ?_
      refine vg_iconst (pc := 231) (dK D_Mo_advance_2 17 rfl) ?_
      refine nmE h (fun v30 e_v30 h => ?_)
      refine gsk (st' := [V 4, V v30]) (by rw [Vn e_v30]) ?_
      refine vg_icmp_ge (pc := 232) (t := 261) (dK D_Mo_advance_2 18 rfl) rfl (Vn_in e_v30) (inRk rfl) (fun hc35 => ?_) (fun hc35 => ?_)
      · replace h := ifP h hc35
        refine g_aloadn (pc := 261) (i0 := 0) (j := 0) (dK D_Mo_advance_2 33 rfl) rfl rfl ?_
        refine g_dup (pc := 262) (dK D_Mo_advance_2 34 rfl) rfl ?_
        refine vg_getI (pc := 263) (ci := 11) (f := 15) (dK D_Mo_advance_2 35 rfl) q_1457 hc0 (ltK rfl) (ltK rfl) rfl ?_
        refine vg_iconst (pc := 266) (dK D_Mo_advance_2 36 rfl) ?_
        refine vg_iadd (pc := 267) (dK D_Mo_advance_2 37 rfl) ?_
        refine nmE h (fun S31 e_S31 h => ?_)
        refine vg_putI (pc := 268) (ci := 11) (f := 15) (z := ((g S c0 15) + 1)) (dK D_Mo_advance_2 38 rfl) q_1457 hc0 (ltK rfl) (ltK rfl) rfl rfl e_S31 ?_
        refine g_goto (pc := 271) (tgt := 200) (dK D_Mo_advance_2 39 rfl) rfl ?_
        replace h := ih _ h
        exact h 
      · replace h := ifN h hc35
        refine g_aloadn (pc := 235) (i0 := 0) (j := 0) (dK D_Mo_advance_2 19 rfl) rfl rfl ?_
        refine g_aloadn (pc := 236) (i0 := 0) (j := 0) (dK D_Mo_advance_2 20 rfl) rfl rfl ?_
        refine vg_getL (pc := 237) (ci := 11) (f := 21) (dK D_Mo_advance_2 21 rfl) q_1463 hc0 (ltK rfl) (ltK rfl) rfl ?_
        refine vg_ldc2 (pc := 240) (y := 10) (dK D_Mo_advance_2 22 rfl) q_2063 rfl ?_
        refine vg_lmul (pc := 243) (dK D_Mo_advance_2 23 rfl) ?_
        refine g_aloadn (pc := 244) (i0 := 0) (j := 0) (dK D_Mo_advance_2 24 rfl) rfl rfl ?_
        refine g_aloadn (pc := 245) (i0 := 0) (j := 0) (dK D_Mo_advance_2 25 rfl) rfl rfl ?_
        refine vg_getI (pc := 246) (ci := 11) (f := 15) (dK D_Mo_advance_2 26 rfl) q_1457 hc0 (ltK rfl) (ltK rfl) rfl ?_
        refine bnE h (fun p32 e_p32 h => ?_)
        refine vg_cV (pc := 249) (As := [V (g S c0 15)]) (rest := [J ((gl S c0 21) * 10), .ref c0]) (mc' := 0) (ms' := 0) (dK D_Mo_advance_2 27 rfl) K_Mo_324 (fitK rfl) (ltK rfl) hc0 rfl (leK rfl) (leK rfl) (leK rfl) (tf_Mo_byteAt hc0 (g_in _ _ _) e_p32) (kcI (fun h_p32 => ?_))
        refine vg_i2l (pc := 252) (dK D_Mo_advance_2 28 rfl) h_p32 ?_
        refine vg_ladd (pc := 253) (dK D_Mo_advance_2 29 rfl) ?_
        refine vg_ldc2 (pc := 254) (y := 48) (dK D_Mo_advance_2 30 rfl) q_2059 rfl ?_
        refine vg_lsub (pc := 257) (dK D_Mo_advance_2 31 rfl) ?_
        refine nmE h (fun S33 e_S33 h => ?_)
        refine vg_putL (pc := 258) (ci := 11) (f := 21) (z := ((((gl S c0 21) * 10) + p32) - 48)) (dK D_Mo_advance_2 32 rfl) q_1463 hc0 (ltK rfl) (ltK rfl) rfl rfl e_S33 ?_
        refine g_aloadn (pc := 261) (i0 := 0) (j := 0) (dK D_Mo_advance_2 33 rfl) rfl rfl ?_
        refine g_dup (pc := 262) (dK D_Mo_advance_2 34 rfl) rfl ?_
        refine vg_getI (pc := 263) (ci := 11) (f := 15) (dK D_Mo_advance_2 35 rfl) q_1457 hc0 (ltK rfl) (ltK rfl) rfl ?_
        refine vg_iconst (pc := 266) (dK D_Mo_advance_2 36 rfl) ?_
        refine vg_iadd (pc := 267) (dK D_Mo_advance_2 37 rfl) ?_
        refine nmE h (fun S34 e_S34 h => ?_)
        refine vg_putI (pc := 268) (ci := 11) (f := 15) (z := ((g S33 c0 15) + 1)) (dK D_Mo_advance_2 38 rfl) q_1457 hc0 (ltK rfl) (ltK rfl) rfl rfl e_S34 ?_
        refine g_goto (pc := 271) (tgt := 200) (dK D_Mo_advance_2 39 rfl) rfl ?_
        replace h := ih _ h
        exact h 
    · replace h := ifN h hc29
      obtain rfl := Option.some.inj h
      exact hx 
def jf_Mo_advance_274 (c0 : Nat) (S : St) : Option (St) := if (g S c0 18) = 1 then (nm (wr ((g S c0 15) - (g S c0 19))) fun v42 => if 8 < v42 then (nm (u S c0 18 4) fun S43 => some S43) else (if (g S c0 18) = 2 then (nm (wr ((g S c0 15) - (g S c0 19))) fun v44 => if v44 ≤ 4 then (some S) else (nm (u S c0 18 4) fun S45 => some S45)) else (some S))) else (if (g S c0 18) = 2 then (nm (wr ((g S c0 15) - (g S c0 19))) fun v38 => if v38 ≤ 4 then (some S) else (nm (u S c0 18 4) fun S39 => some S39)) else (some S))
theorem tj_Mo_advance_274 {E : EV} {X : XT} {c0 : Nat} (hc0 : HC X 11 c0) {S : St} {q : St} (h : jf_Mo_advance_274 c0 S = some q) : Go E M_Mo_advance 0 0 274 [(0, .ref c0)] [] (WX X S) 0 0 (KU X q) := by
  unfold jf_Mo_advance_274 at h
  refine g_aloadn (pc := 274) (i0 := 0) (j := 0) (dK D_Mo_advance_2 40 rfl) rfl rfl ?_
  refine vg_getI (pc := 275) (ci := 11) (f := 18) (dK D_Mo_advance_2 41 rfl) q_1460 hc0 (ltK rfl) (ltK rfl) rfl ?_
  refine vg_iconst (pc := 278) (dK D_Mo_advance_2 42 rfl) ?_
  refine vg_icmp_ne (pc := 279) (t := 296) (dK D_Mo_advance_2 43 rfl) rfl (g_in _ _ _) (inRk rfl) (fun hc49 => ?_) (fun hc49 => ?_)
  · replace h := ifN h hc49
    refine g_aloadn (pc := 296) (i0 := 0) (j := 0) (dK D_Mo_advance_3 1 rfl) rfl rfl ?_
    refine vg_getI (pc := 297) (ci := 11) (f := 18) (dK D_Mo_advance_3 2 rfl) q_1460 hc0 (ltK rfl) (ltK rfl) rfl ?_
    refine vg_iconst (pc := 300) (dK D_Mo_advance_3 3 rfl) ?_
    refine vg_icmp_ne (pc := 301) (t := 322) (dK D_Mo_advance_3 4 rfl) rfl (g_in _ _ _) (inRk rfl) (fun hc41 => ?_) (fun hc41 => ?_)
    · replace h := ifN h hc41
      exact g_return (pc := 322) (dK D_Mo_advance_3 15 rfl) rfl (leK rfl) (leK rfl) (fun _ => rfl) (by obtain rfl := Option.some.inj h; exact ⟨rfl, rfl⟩)
    · replace h := ifP h hc41
      refine g_aloadn (pc := 304) (i0 := 0) (j := 0) (dK D_Mo_advance_3 5 rfl) rfl rfl ?_
      refine vg_getI (pc := 305) (ci := 11) (f := 15) (dK D_Mo_advance_3 6 rfl) q_1457 hc0 (ltK rfl) (ltK rfl) rfl ?_
      refine g_aloadn (pc := 308) (i0 := 0) (j := 0) (dK D_Mo_advance_3 7 rfl) rfl rfl ?_
      refine vg_getI (pc := 309) (ci := 11) (f := 19) (dK D_Mo_advance_3 8 rfl) q_1461 hc0 (ltK rfl) (ltK rfl) rfl ?_
      refine vg_isub (pc := 312) (dK D_Mo_advance_3 9 rfl) ?_
      refine vg_iconst (pc := 313) (dK D_Mo_advance_3 10 rfl) ?_
      refine nmE h (fun v38 e_v38 h => ?_)
      refine gsk (st' := [V 4, V v38]) (by rw [Vn e_v38]) ?_
      refine vg_icmp_le (pc := 314) (t := 322) (dK D_Mo_advance_3 11 rfl) rfl (Vn_in e_v38) (inRk rfl) (fun hc40 => ?_) (fun hc40 => ?_)
      · replace h := ifP h hc40
        exact g_return (pc := 322) (dK D_Mo_advance_3 15 rfl) rfl (leK rfl) (leK rfl) (fun _ => rfl) (by obtain rfl := Option.some.inj h; exact ⟨rfl, rfl⟩)
      · replace h := ifN h hc40
        refine g_aloadn (pc := 317) (i0 := 0) (j := 0) (dK D_Mo_advance_3 12 rfl) rfl rfl ?_
        refine vg_iconst (pc := 318) (dK D_Mo_advance_3 13 rfl) ?_
        refine nmE h (fun S39 e_S39 h => ?_)
        refine vg_putI (pc := 319) (ci := 11) (f := 18) (z := 4) (dK D_Mo_advance_3 14 rfl) q_1460 hc0 (ltK rfl) (ltK rfl) rfl rfl e_S39 ?_
        exact g_return (pc := 322) (dK D_Mo_advance_3 15 rfl) rfl (leK rfl) (leK rfl) (fun _ => rfl) (by obtain rfl := Option.some.inj h; exact ⟨rfl, rfl⟩)
  · replace h := ifP h hc49
    refine g_aloadn (pc := 282) (i0 := 0) (j := 0) (dK D_Mo_advance_2 44 rfl) rfl rfl ?_
    refine vg_getI (pc := 283) (ci := 11) (f := 15) (dK D_Mo_advance_2 45 rfl) q_1457 hc0 (ltK rfl) (ltK rfl) rfl ?_
    refine g_aloadn (pc := 286) (i0 := 0) (j := 0) (dK D_Mo_advance_2 46 rfl) rfl rfl ?_
    refine vg_getI (pc := 287) (ci := 11) (f := 19) (dK D_Mo_advance_2 47 rfl) q_1461 hc0 (ltK rfl) (ltK rfl) rfl ?_
    refine vg_isub (pc := 290) (dK D_Mo_advance_2 48 rfl) ?_
    refine vg_bipush (pc := 291) (dK D_Mo_advance_2 49 rfl) rfl ?_
    refine nmE h (fun v42 e_v42 h => ?_)
    refine gsk (st' := [V 8, V v42]) (by rw [Vn e_v42]) ?_
    refine vg_icmp_gt (pc := 293) (t := 317) (dK D_Mo_advance_3 0 rfl) rfl (Vn_in e_v42) (inRk rfl) (fun hc48 => ?_) (fun hc48 => ?_)
    · replace h := ifP h hc48
      refine g_aloadn (pc := 317) (i0 := 0) (j := 0) (dK D_Mo_advance_3 12 rfl) rfl rfl ?_
      refine vg_iconst (pc := 318) (dK D_Mo_advance_3 13 rfl) ?_
      refine nmE h (fun S43 e_S43 h => ?_)
      refine vg_putI (pc := 319) (ci := 11) (f := 18) (z := 4) (dK D_Mo_advance_3 14 rfl) q_1460 hc0 (ltK rfl) (ltK rfl) rfl rfl e_S43 ?_
      exact g_return (pc := 322) (dK D_Mo_advance_3 15 rfl) rfl (leK rfl) (leK rfl) (fun _ => rfl) (by obtain rfl := Option.some.inj h; exact ⟨rfl, rfl⟩)
    · replace h := ifN h hc48
      refine g_aloadn (pc := 296) (i0 := 0) (j := 0) (dK D_Mo_advance_3 1 rfl) rfl rfl ?_
      refine vg_getI (pc := 297) (ci := 11) (f := 18) (dK D_Mo_advance_3 2 rfl) q_1460 hc0 (ltK rfl) (ltK rfl) rfl ?_
      refine vg_iconst (pc := 300) (dK D_Mo_advance_3 3 rfl) ?_
      refine vg_icmp_ne (pc := 301) (t := 322) (dK D_Mo_advance_3 4 rfl) rfl (g_in _ _ _) (inRk rfl) (fun hc47 => ?_) (fun hc47 => ?_)
      · replace h := ifN h hc47
        exact g_return (pc := 322) (dK D_Mo_advance_3 15 rfl) rfl (leK rfl) (leK rfl) (fun _ => rfl) (by obtain rfl := Option.some.inj h; exact ⟨rfl, rfl⟩)
      · replace h := ifP h hc47
        refine g_aloadn (pc := 304) (i0 := 0) (j := 0) (dK D_Mo_advance_3 5 rfl) rfl rfl ?_
        refine vg_getI (pc := 305) (ci := 11) (f := 15) (dK D_Mo_advance_3 6 rfl) q_1457 hc0 (ltK rfl) (ltK rfl) rfl ?_
        refine g_aloadn (pc := 308) (i0 := 0) (j := 0) (dK D_Mo_advance_3 7 rfl) rfl rfl ?_
        refine vg_getI (pc := 309) (ci := 11) (f := 19) (dK D_Mo_advance_3 8 rfl) q_1461 hc0 (ltK rfl) (ltK rfl) rfl ?_
        refine vg_isub (pc := 312) (dK D_Mo_advance_3 9 rfl) ?_
        refine vg_iconst (pc := 313) (dK D_Mo_advance_3 10 rfl) ?_
        refine nmE h (fun v44 e_v44 h => ?_)
        refine gsk (st' := [V 4, V v44]) (by rw [Vn e_v44]) ?_
        refine vg_icmp_le (pc := 314) (t := 322) (dK D_Mo_advance_3 11 rfl) rfl (Vn_in e_v44) (inRk rfl) (fun hc46 => ?_) (fun hc46 => ?_)
        · replace h := ifP h hc46
          exact g_return (pc := 322) (dK D_Mo_advance_3 15 rfl) rfl (leK rfl) (leK rfl) (fun _ => rfl) (by obtain rfl := Option.some.inj h; exact ⟨rfl, rfl⟩)
        · replace h := ifN h hc46
          refine g_aloadn (pc := 317) (i0 := 0) (j := 0) (dK D_Mo_advance_3 12 rfl) rfl rfl ?_
          refine vg_iconst (pc := 318) (dK D_Mo_advance_3 13 rfl) ?_
          refine nmE h (fun S45 e_S45 h => ?_)
          refine vg_putI (pc := 319) (ci := 11) (f := 18) (z := 4) (dK D_Mo_advance_3 14 rfl) q_1460 hc0 (ltK rfl) (ltK rfl) rfl rfl e_S45 ?_
          exact g_return (pc := 322) (dK D_Mo_advance_3 15 rfl) rfl (leK rfl) (leK rfl) (fun _ => rfl) (by obtain rfl := Option.some.inj h; exact ⟨rfl, rfl⟩)
def jf_Mo_advance_104 (c0 : Nat) (t0 : Int) (d1 : Nat) (S : St) : Option (St) := nm (u S d1 18 t0) fun S15 => if (g S15 c0 18) ≤ 2 then (bnO (lo_Mo_advance_125 c0 FU S15) fun p26 => bnO (lo_Mo_advance_200 c0 FU p26) fun p37 => jf_Mo_advance_274 c0 p37) else (nm (u S15 c0 15 ((g S15 c0 15) + 1)) fun S50 => bnO (lo_Mo_advance_125 c0 FU S50) fun p51 => bnO (lo_Mo_advance_200 c0 FU p51) fun p52 => jf_Mo_advance_274 c0 p52)
theorem tj_Mo_advance_104 {E : EV} {X : XT} {c0 : Nat} (hc0 : HC X 11 c0) {t0 : Int} (ht0 : inR t0) {d1 : Nat} (hd1 : HC X 11 d1) {S : St} {q : St} (h : jf_Mo_advance_104 c0 t0 d1 S = some q) : Go E M_Mo_advance 0 0 104 [(0, .ref c0)] [V t0, .ref d1] (WX X S) 0 0 (KU X q) := by
  unfold jf_Mo_advance_104 at h
  refine nmE h (fun S15 e_S15 h => ?_)
  refine vg_putI (pc := 104) (ci := 11) (f := 18) (z := t0) (dK D_Mo_advance_1 3 rfl) q_1460 hd1 (ltK rfl) (ltK rfl) rfl rfl e_S15 ?_
  refine g_aloadn (pc := 107) (i0 := 0) (j := 0) (dK D_Mo_advance_1 4 rfl) rfl rfl ?_
  refine vg_getI (pc := 108) (ci := 11) (f := 18) (dK D_Mo_advance_1 5 rfl) q_1460 hc0 (ltK rfl) (ltK rfl) rfl ?_
  refine vg_iconst (pc := 111) (dK D_Mo_advance_1 6 rfl) ?_
  refine vg_icmp_le (pc := 112) (t := 125) (dK D_Mo_advance_1 7 rfl) rfl (g_in _ _ _) (inRk rfl) (fun hc53 => ?_) (fun hc53 => ?_)
  · replace h := ifP h hc53
    refine bnE h (fun p26 e_p26 h => ?_)
    refine tl_Mo_advance_125 hc0 ?_ FU S15 e_p26 
    refine bnE h (fun p37 e_p37 h => ?_)
    refine tl_Mo_advance_200 hc0 ?_ FU p26 e_p37 
    exact tj_Mo_advance_274 hc0 h
  · replace h := ifN h hc53
    refine g_aloadn (pc := 115) (i0 := 0) (j := 0) (dK D_Mo_advance_1 8 rfl) rfl rfl ?_
    refine g_dup (pc := 116) (dK D_Mo_advance_1 9 rfl) rfl ?_
    refine vg_getI (pc := 117) (ci := 11) (f := 15) (dK D_Mo_advance_1 10 rfl) q_1457 hc0 (ltK rfl) (ltK rfl) rfl ?_
    refine vg_iconst (pc := 120) (dK D_Mo_advance_1 11 rfl) ?_
    refine vg_iadd (pc := 121) (dK D_Mo_advance_1 12 rfl) ?_
    refine nmE h (fun S50 e_S50 h => ?_)
    refine vg_putI (pc := 122) (ci := 11) (f := 15) (z := ((g S15 c0 15) + 1)) (dK D_Mo_advance_1 13 rfl) q_1457 hc0 (ltK rfl) (ltK rfl) rfl rfl e_S50 ?_
    refine bnE h (fun p51 e_p51 h => ?_)
    refine tl_Mo_advance_125 hc0 ?_ FU S50 e_p51 
    refine bnE h (fun p52 e_p52 h => ?_)
    refine tl_Mo_advance_200 hc0 ?_ FU p51 e_p52 
    exact tj_Mo_advance_274 hc0 h
def fn_Mo_advance (c0 : Nat) (S : St) : Option (St) := bnO (lo_Mo_advance_0 c0 FU S) fun p7 => nm (u p7 c0 19 (g p7 c0 15)) fun S8 => nm (ul S8 c0 21 0) fun S9 => bnO (fn_Mo_byteAt c0 (g S9 c0 19) S9) fun p10 => if p10 = (-1) then (jf_Mo_advance_104 c0 0 c0 S9) else (bnO (fn_Mo_isLetter p10 S9) fun p11 => if p11 = true then (jf_Mo_advance_104 c0 1 c0 S9) else (bnO (fn_Mo_isDigit p10 S9) fun p13 => if p13 = true then (jf_Mo_advance_104 c0 2 c0 S9) else (if p10 = 59 then (jf_Mo_advance_104 c0 3 c0 S9) else (jf_Mo_advance_104 c0 4 c0 S9))))
theorem tf_Mo_advance {E : EV} {X : XT} {c0 : Nat} (hc0 : HC X 11 c0) {S : St} {q : St} (h : fn_Mo_advance c0 S = some q) : Ev E M_Mo_advance [.ref c0] (WX X S) 0 0 (KU X q) := by
  refine Ev.of pn_Mo rfl (leK rfl) ?_
  show Go E M_Mo_advance 0 0 0 [(0, .ref c0)] [] (WX X S) 0 0 (KU X q)
  unfold fn_Mo_advance at h
  refine bnE h (fun p7 e_p7 h => ?_)
  refine tl_Mo_advance_0 hc0 ?_ FU S e_p7 
  refine g_aloadn (pc := 39) (i0 := 0) (j := 0) (dK D_Mo_advance_0 19 rfl) rfl rfl ?_
  refine g_aloadn (pc := 40) (i0 := 0) (j := 0) (dK D_Mo_advance_0 20 rfl) rfl rfl ?_
  refine vg_getI (pc := 41) (ci := 11) (f := 15) (dK D_Mo_advance_0 21 rfl) q_1457 hc0 (ltK rfl) (ltK rfl) rfl ?_
  refine nmE h (fun S8 e_S8 h => ?_)
  refine vg_putI (pc := 44) (ci := 11) (f := 19) (z := (g p7 c0 15)) (dK D_Mo_advance_0 22 rfl) q_1461 hc0 (ltK rfl) (ltK rfl) rfl rfl e_S8 ?_
  refine g_aloadn (pc := 47) (i0 := 0) (j := 0) (dK D_Mo_advance_0 23 rfl) rfl rfl ?_
  refine vg_lconst (pc := 48) (y := 0) (dK D_Mo_advance_0 24 rfl) rfl ?_
  refine nmE h (fun S9 e_S9 h => ?_)
  refine vg_putL (pc := 49) (ci := 11) (f := 21) (z := 0) (dK D_Mo_advance_0 25 rfl) q_1463 hc0 (ltK rfl) (ltK rfl) rfl rfl e_S9 ?_
  refine g_aloadn (pc := 52) (i0 := 0) (j := 0) (dK D_Mo_advance_0 26 rfl) rfl rfl ?_
  refine g_aloadn (pc := 53) (i0 := 0) (j := 0) (dK D_Mo_advance_0 27 rfl) rfl rfl ?_
  refine vg_getI (pc := 54) (ci := 11) (f := 19) (dK D_Mo_advance_0 28 rfl) q_1461 hc0 (ltK rfl) (ltK rfl) rfl ?_
  refine bnE h (fun p10 e_p10 h => ?_)
  refine vg_cV (pc := 57) (As := [V (g S9 c0 19)]) (rest := []) (mc' := 0) (ms' := 0) (dK D_Mo_advance_0 29 rfl) K_Mo_324 (fitK rfl) (ltK rfl) hc0 rfl (leK rfl) (leK rfl) (leK rfl) (tf_Mo_byteAt hc0 (g_in _ _ _) e_p10) (kcI (fun h_p10 => ?_))
  refine g_istoren (pc := 60) (i0 := 1) (ls2 := [(1, V p10), (0, .ref c0)]) (dK D_Mo_advance_0 30 rfl) rfl (ltK rfl) rfl ?_
  refine g_aloadn (pc := 61) (i0 := 0) (j := 1) (dK D_Mo_advance_0 31 rfl) rfl rfl ?_
  refine g_iloadn (pc := 62) (i0 := 1) (j := 0) (dK D_Mo_advance_0 32 rfl) rfl rfl ?_
  refine vg_iconst (pc := 63) (dK D_Mo_advance_0 33 rfl) ?_
  refine vg_icmp_ne (pc := 64) (t := 71) (dK D_Mo_advance_0 34 rfl) rfl h_p10 (inRk rfl) (fun hc55 => ?_) (fun hc55 => ?_)
  · replace h := ifN h hc55
    refine g_iloadn (pc := 71) (i0 := 1) (j := 0) (dK D_Mo_advance_0 37 rfl) rfl rfl ?_
    refine bnE h (fun p11 e_p11 h => ?_)
    refine vg_cS (pc := 72) (As := [V p10]) (rest := [.ref c0]) (mc' := 0) (ms' := 0) (dK D_Mo_advance_0 38 rfl) K_Mo_334 (fitK rfl) rfl (leK rfl) (leK rfl) (leK rfl) (tf_Mo_isLetter h_p10 e_p11) (kcB ?_)
    refine vg_ifB_eq (pc := 75) (b := p11) (t := 82) (dK D_Mo_advance_0 39 rfl) rfl (fun hc12 => ?_) (fun hc12 => ?_)
    · replace h := ifP h hc12
      refine vg_iconst (pc := 78) (dK D_Mo_advance_0 40 rfl) ?_
      refine g_goto (pc := 79) (tgt := 104) (dK D_Mo_advance_0 41 rfl) rfl ?_
      refine gL_weak (ls' := [(0, .ref c0)]) (sbc 1 rfl sbn) ?_
      exact tj_Mo_advance_104 hc0 (inRk rfl) hc0 h
    · replace h := ifN h hc12
      refine g_iloadn (pc := 82) (i0 := 1) (j := 0) (dK D_Mo_advance_0 42 rfl) rfl rfl ?_
      refine bnE h (fun p13 e_p13 h => ?_)
      refine vg_cS (pc := 83) (As := [V p10]) (rest := [.ref c0]) (mc' := 0) (ms' := 0) (dK D_Mo_advance_0 43 rfl) K_Mo_337 (fitK rfl) rfl (leK rfl) (leK rfl) (leK rfl) (tf_Mo_isDigit h_p10 e_p13) (kcB ?_)
      refine vg_ifB_eq (pc := 86) (b := p13) (t := 93) (dK D_Mo_advance_0 44 rfl) rfl (fun hc14 => ?_) (fun hc14 => ?_)
      · replace h := ifP h hc14
        refine vg_iconst (pc := 89) (dK D_Mo_advance_0 45 rfl) ?_
        refine g_goto (pc := 90) (tgt := 104) (dK D_Mo_advance_0 46 rfl) rfl ?_
        refine gL_weak (ls' := [(0, .ref c0)]) (sbc 1 rfl sbn) ?_
        exact tj_Mo_advance_104 hc0 (inRk rfl) hc0 h
      · replace h := ifN h hc14
        refine g_iloadn (pc := 93) (i0 := 1) (j := 0) (dK D_Mo_advance_0 47 rfl) rfl rfl ?_
        refine vg_bipush (pc := 94) (dK D_Mo_advance_0 48 rfl) rfl ?_
        refine vg_icmp_ne (pc := 96) (t := 103) (dK D_Mo_advance_0 49 rfl) rfl h_p10 (inRk rfl) (fun hc54 => ?_) (fun hc54 => ?_)
        · replace h := ifN h hc54
          refine vg_iconst (pc := 103) (dK D_Mo_advance_1 2 rfl) ?_
          refine gL_weak (ls' := [(0, .ref c0)]) (sbc 1 rfl sbn) ?_
          exact tj_Mo_advance_104 hc0 (inRk rfl) hc0 h
        · replace h := ifP h hc54
          refine vg_iconst (pc := 99) (dK D_Mo_advance_1 0 rfl) ?_
          refine g_goto (pc := 100) (tgt := 104) (dK D_Mo_advance_1 1 rfl) rfl ?_
          refine gL_weak (ls' := [(0, .ref c0)]) (sbc 1 rfl sbn) ?_
          exact tj_Mo_advance_104 hc0 (inRk rfl) hc0 h
  · replace h := ifP h hc55
    refine vg_iconst (pc := 67) (dK D_Mo_advance_0 35 rfl) ?_
    refine g_goto (pc := 68) (tgt := 104) (dK D_Mo_advance_0 36 rfl) rfl ?_
    refine gL_weak (ls' := [(0, .ref c0)]) (sbc 1 rfl sbn) ?_
    exact tj_Mo_advance_104 hc0 (inRk rfl) hc0 h
def fn_Mo_pack (a0 : Int) (a1 : Int) (a2 : Int) (a3 : Int) (a4 : Int) (S : St) : Option (Int) := nm (wl ((((a0 - 96) * 32) + a1) - 96)) fun v1 => if a2 = 0 then (if a3 = 0 then (if a4 = 0 then (some v1) else (some (wl (((v1 * 32) + a4) - 96)))) else (nm (wl (((v1 * 32) + a3) - 96)) fun v7 => if a4 = 0 then (some v7) else (some (wl (((v7 * 32) + a4) - 96))))) else (nm (wl (((v1 * 32) + a2) - 96)) fun v2 => if a3 = 0 then (if a4 = 0 then (some v2) else (some (wl (((v2 * 32) + a4) - 96)))) else (nm (wl (((v2 * 32) + a3) - 96)) fun v3 => if a4 = 0 then (some v3) else (some (wl (((v3 * 32) + a4) - 96)))))
set_option maxHeartbeats 20000000 in
theorem tf_Mo_pack {E : EV} {X : XT} {a0 : Int} (ha0 : inR a0) {a1 : Int} (ha1 : inR a1) {a2 : Int} (ha2 : inR a2) {a3 : Int} (ha3 : inR a3) {a4 : Int} (ha4 : inR a4) {S : St} {q : Int} (h : fn_Mo_pack a0 a1 a2 a3 a4 S = some q) : Ev E M_Mo_pack [V a0, V a1, V a2, V a3, V a4] (WX X S) 0 0 (KJ X q S) := by
  refine Ev.of pn_Mo rfl (leK rfl) ?_
  show Go E M_Mo_pack 0 0 0 [(0, V a0), (1, V a1), (2, V a2), (3, V a3), (4, V a4)] [] (WX X S) 0 0 (KJ X q S)
  unfold fn_Mo_pack at h
  refine g_iloadn (pc := 0) (i0 := 0) (j := 0) (dK D_Mo_pack_0 0 rfl) rfl rfl ?_
  refine vg_i2l (pc := 1) (dK D_Mo_pack_0 1 rfl) ha0 ?_
  refine vg_ldc2 (pc := 2) (y := 96) (dK D_Mo_pack_0 2 rfl) q_2062 rfl ?_
  refine vg_lsub (pc := 5) (dK D_Mo_pack_0 3 rfl) ?_
  refine vg_ldc2 (pc := 6) (y := 32) (dK D_Mo_pack_0 4 rfl) q_2061 rfl ?_
  refine vg_lmul (pc := 9) (dK D_Mo_pack_0 5 rfl) ?_
  refine g_iloadn (pc := 10) (i0 := 1) (j := 1) (dK D_Mo_pack_0 6 rfl) rfl rfl ?_
  refine vg_i2l (pc := 11) (dK D_Mo_pack_0 7 rfl) ha1 ?_
  refine vg_ladd (pc := 12) (dK D_Mo_pack_0 8 rfl) ?_
  refine vg_ldc2 (pc := 13) (y := 96) (dK D_Mo_pack_0 9 rfl) q_2062 rfl ?_
  refine vg_lsub (pc := 16) (dK D_Mo_pack_0 10 rfl) ?_
  refine nmE h (fun v1 e_v1 h => ?_)
  refine gtopJ e_v1 ?_
  refine g_lstore (pc := 17) (ls2 := [(5, J v1), (0, V a0), (1, V a1), (2, V a2), (3, V a3), (4, V a4)]) (dK D_Mo_pack_0 11 rfl) (ltK rfl) rfl ?_
  refine g_iloadn (pc := 19) (i0 := 2) (j := 3) (dK D_Mo_pack_0 12 rfl) rfl rfl ?_
  refine vg_if_ne (pc := 20) (t := 28) (dK D_Mo_pack_0 13 rfl) rfl ha2 (fun hc11 => ?_) (fun hc11 => ?_)
  · replace h := ifN h hc11
    refine g_lload (pc := 28) (j := 0) (dK D_Mo_pack_0 16 rfl) rfl ?_
    refine vg_ldc2 (pc := 30) (y := 32) (dK D_Mo_pack_0 17 rfl) q_2061 rfl ?_
    refine vg_lmul (pc := 33) (dK D_Mo_pack_0 18 rfl) ?_
    refine g_iloadn (pc := 34) (i0 := 2) (j := 3) (dK D_Mo_pack_0 19 rfl) rfl rfl ?_
    refine vg_i2l (pc := 35) (dK D_Mo_pack_0 20 rfl) ha2 ?_
    refine vg_ladd (pc := 36) (dK D_Mo_pack_0 21 rfl) ?_
    refine vg_ldc2 (pc := 37) (y := 96) (dK D_Mo_pack_0 22 rfl) q_2062 rfl ?_
    refine vg_lsub (pc := 40) (dK D_Mo_pack_0 23 rfl) ?_
    refine nmE h (fun v2 e_v2 h => ?_)
    refine gtopJ e_v2 ?_
    refine g_lstore (pc := 41) (ls2 := [(5, J v2), (0, V a0), (1, V a1), (2, V a2), (3, V a3), (4, V a4)]) (dK D_Mo_pack_0 24 rfl) (ltK rfl) rfl ?_
    refine g_iloadn (pc := 43) (i0 := 3) (j := 4) (dK D_Mo_pack_0 25 rfl) rfl rfl ?_
    refine vg_if_ne (pc := 44) (t := 52) (dK D_Mo_pack_0 26 rfl) rfl ha3 (fun hc6 => ?_) (fun hc6 => ?_)
    · replace h := ifN h hc6
      refine g_lload (pc := 52) (j := 0) (dK D_Mo_pack_0 29 rfl) rfl ?_
      refine vg_ldc2 (pc := 54) (y := 32) (dK D_Mo_pack_0 30 rfl) q_2061 rfl ?_
      refine vg_lmul (pc := 57) (dK D_Mo_pack_0 31 rfl) ?_
      refine g_iloadn (pc := 58) (i0 := 3) (j := 4) (dK D_Mo_pack_0 32 rfl) rfl rfl ?_
      refine vg_i2l (pc := 59) (dK D_Mo_pack_0 33 rfl) ha3 ?_
      refine vg_ladd (pc := 60) (dK D_Mo_pack_0 34 rfl) ?_
      refine vg_ldc2 (pc := 61) (y := 96) (dK D_Mo_pack_0 35 rfl) q_2062 rfl ?_
      refine vg_lsub (pc := 64) (dK D_Mo_pack_0 36 rfl) ?_
      refine nmE h (fun v3 e_v3 h => ?_)
      refine gtopJ e_v3 ?_
      refine g_lstore (pc := 65) (ls2 := [(5, J v3), (0, V a0), (1, V a1), (2, V a2), (3, V a3), (4, V a4)]) (dK D_Mo_pack_0 37 rfl) (ltK rfl) rfl ?_
      refine g_iload (pc := 67) (j := 5) (dK D_Mo_pack_0 38 rfl) rfl ?_
      refine vg_if_ne (pc := 69) (t := 77) (dK D_Mo_pack_0 39 rfl) rfl ha4 (fun hc4 => ?_) (fun hc4 => ?_)
      · replace h := ifN h hc4
        refine g_lload (pc := 77) (j := 0) (dK D_Mo_pack_0 42 rfl) rfl ?_
        refine vg_ldc2 (pc := 79) (y := 32) (dK D_Mo_pack_0 43 rfl) q_2061 rfl ?_
        refine vg_lmul (pc := 82) (dK D_Mo_pack_0 44 rfl) ?_
        refine g_iload (pc := 83) (j := 5) (dK D_Mo_pack_0 45 rfl) rfl ?_
        refine vg_i2l (pc := 85) (dK D_Mo_pack_0 46 rfl) ha4 ?_
        refine vg_ladd (pc := 86) (dK D_Mo_pack_0 47 rfl) ?_
        refine vg_ldc2 (pc := 87) (y := 96) (dK D_Mo_pack_0 48 rfl) q_2062 rfl ?_
        refine vg_lsub (pc := 90) (dK D_Mo_pack_0 49 rfl) ?_
        refine gtopJ (x := (wl (((v3 * 32) + a4) - 96))) rfl ?_
        exact g_lreturn (pc := 91) (dK D_Mo_pack_1 0 rfl) rfl (leK rfl) (leK rfl) (fun _ => rfl) (by obtain rfl := Option.some.inj h; exact ⟨rfl, (wl_in _), rfl⟩)
      · replace h := ifP h hc4
        refine g_lload (pc := 72) (j := 0) (dK D_Mo_pack_0 40 rfl) rfl ?_
        refine g_goto (pc := 74) (tgt := 91) (dK D_Mo_pack_0 41 rfl) rfl ?_
        exact g_lreturn (pc := 91) (dK D_Mo_pack_1 0 rfl) rfl (leK rfl) (leK rfl) (fun _ => rfl) (by obtain rfl := Option.some.inj h; exact ⟨rfl, (Jn_in e_v3), rfl⟩)
    · replace h := ifP h hc6
      refine g_lload (pc := 47) (j := 0) (dK D_Mo_pack_0 27 rfl) rfl ?_
      refine g_goto (pc := 49) (tgt := 65) (dK D_Mo_pack_0 28 rfl) rfl ?_
      refine g_lstore (pc := 65) (ls2 := [(5, J v2), (0, V a0), (1, V a1), (2, V a2), (3, V a3), (4, V a4)]) (dK D_Mo_pack_0 37 rfl) (ltK rfl) rfl ?_
      refine g_iload (pc := 67) (j := 5) (dK D_Mo_pack_0 38 rfl) rfl ?_
      refine vg_if_ne (pc := 69) (t := 77) (dK D_Mo_pack_0 39 rfl) rfl ha4 (fun hc5 => ?_) (fun hc5 => ?_)
      · replace h := ifN h hc5
        refine g_lload (pc := 77) (j := 0) (dK D_Mo_pack_0 42 rfl) rfl ?_
        refine vg_ldc2 (pc := 79) (y := 32) (dK D_Mo_pack_0 43 rfl) q_2061 rfl ?_
        refine vg_lmul (pc := 82) (dK D_Mo_pack_0 44 rfl) ?_
        refine g_iload (pc := 83) (j := 5) (dK D_Mo_pack_0 45 rfl) rfl ?_
        refine vg_i2l (pc := 85) (dK D_Mo_pack_0 46 rfl) ha4 ?_
        refine vg_ladd (pc := 86) (dK D_Mo_pack_0 47 rfl) ?_
        refine vg_ldc2 (pc := 87) (y := 96) (dK D_Mo_pack_0 48 rfl) q_2062 rfl ?_
        refine vg_lsub (pc := 90) (dK D_Mo_pack_0 49 rfl) ?_
        refine gtopJ (x := (wl (((v2 * 32) + a4) - 96))) rfl ?_
        exact g_lreturn (pc := 91) (dK D_Mo_pack_1 0 rfl) rfl (leK rfl) (leK rfl) (fun _ => rfl) (by obtain rfl := Option.some.inj h; exact ⟨rfl, (wl_in _), rfl⟩)
      · replace h := ifP h hc5
        refine g_lload (pc := 72) (j := 0) (dK D_Mo_pack_0 40 rfl) rfl ?_
        refine g_goto (pc := 74) (tgt := 91) (dK D_Mo_pack_0 41 rfl) rfl ?_
        exact g_lreturn (pc := 91) (dK D_Mo_pack_1 0 rfl) rfl (leK rfl) (leK rfl) (fun _ => rfl) (by obtain rfl := Option.some.inj h; exact ⟨rfl, (Jn_in e_v2), rfl⟩)
  · replace h := ifP h hc11
    refine g_lload (pc := 23) (j := 0) (dK D_Mo_pack_0 14 rfl) rfl ?_
    refine g_goto (pc := 25) (tgt := 41) (dK D_Mo_pack_0 15 rfl) rfl ?_
    refine g_lstore (pc := 41) (ls2 := [(5, J v1), (0, V a0), (1, V a1), (2, V a2), (3, V a3), (4, V a4)]) (dK D_Mo_pack_0 24 rfl) (ltK rfl) rfl ?_
    refine g_iloadn (pc := 43) (i0 := 3) (j := 4) (dK D_Mo_pack_0 25 rfl) rfl rfl ?_
    refine vg_if_ne (pc := 44) (t := 52) (dK D_Mo_pack_0 26 rfl) rfl ha3 (fun hc10 => ?_) (fun hc10 => ?_)
    · replace h := ifN h hc10
      refine g_lload (pc := 52) (j := 0) (dK D_Mo_pack_0 29 rfl) rfl ?_
      refine vg_ldc2 (pc := 54) (y := 32) (dK D_Mo_pack_0 30 rfl) q_2061 rfl ?_
      refine vg_lmul (pc := 57) (dK D_Mo_pack_0 31 rfl) ?_
      refine g_iloadn (pc := 58) (i0 := 3) (j := 4) (dK D_Mo_pack_0 32 rfl) rfl rfl ?_
      refine vg_i2l (pc := 59) (dK D_Mo_pack_0 33 rfl) ha3 ?_
      refine vg_ladd (pc := 60) (dK D_Mo_pack_0 34 rfl) ?_
      refine vg_ldc2 (pc := 61) (y := 96) (dK D_Mo_pack_0 35 rfl) q_2062 rfl ?_
      refine vg_lsub (pc := 64) (dK D_Mo_pack_0 36 rfl) ?_
      refine nmE h (fun v7 e_v7 h => ?_)
      refine gtopJ e_v7 ?_
      refine g_lstore (pc := 65) (ls2 := [(5, J v7), (0, V a0), (1, V a1), (2, V a2), (3, V a3), (4, V a4)]) (dK D_Mo_pack_0 37 rfl) (ltK rfl) rfl ?_
      refine g_iload (pc := 67) (j := 5) (dK D_Mo_pack_0 38 rfl) rfl ?_
      refine vg_if_ne (pc := 69) (t := 77) (dK D_Mo_pack_0 39 rfl) rfl ha4 (fun hc8 => ?_) (fun hc8 => ?_)
      · replace h := ifN h hc8
        refine g_lload (pc := 77) (j := 0) (dK D_Mo_pack_0 42 rfl) rfl ?_
        refine vg_ldc2 (pc := 79) (y := 32) (dK D_Mo_pack_0 43 rfl) q_2061 rfl ?_
        refine vg_lmul (pc := 82) (dK D_Mo_pack_0 44 rfl) ?_
        refine g_iload (pc := 83) (j := 5) (dK D_Mo_pack_0 45 rfl) rfl ?_
        refine vg_i2l (pc := 85) (dK D_Mo_pack_0 46 rfl) ha4 ?_
        refine vg_ladd (pc := 86) (dK D_Mo_pack_0 47 rfl) ?_
        refine vg_ldc2 (pc := 87) (y := 96) (dK D_Mo_pack_0 48 rfl) q_2062 rfl ?_
        refine vg_lsub (pc := 90) (dK D_Mo_pack_0 49 rfl) ?_
        refine gtopJ (x := (wl (((v7 * 32) + a4) - 96))) rfl ?_
        exact g_lreturn (pc := 91) (dK D_Mo_pack_1 0 rfl) rfl (leK rfl) (leK rfl) (fun _ => rfl) (by obtain rfl := Option.some.inj h; exact ⟨rfl, (wl_in _), rfl⟩)
      · replace h := ifP h hc8
        refine g_lload (pc := 72) (j := 0) (dK D_Mo_pack_0 40 rfl) rfl ?_
        refine g_goto (pc := 74) (tgt := 91) (dK D_Mo_pack_0 41 rfl) rfl ?_
        exact g_lreturn (pc := 91) (dK D_Mo_pack_1 0 rfl) rfl (leK rfl) (leK rfl) (fun _ => rfl) (by obtain rfl := Option.some.inj h; exact ⟨rfl, (Jn_in e_v7), rfl⟩)
    · replace h := ifP h hc10
      refine g_lload (pc := 47) (j := 0) (dK D_Mo_pack_0 27 rfl) rfl ?_
      refine g_goto (pc := 49) (tgt := 65) (dK D_Mo_pack_0 28 rfl) rfl ?_
      refine g_lstore (pc := 65) (ls2 := [(5, J v1), (0, V a0), (1, V a1), (2, V a2), (3, V a3), (4, V a4)]) (dK D_Mo_pack_0 37 rfl) (ltK rfl) rfl ?_
      refine g_iload (pc := 67) (j := 5) (dK D_Mo_pack_0 38 rfl) rfl ?_
      refine vg_if_ne (pc := 69) (t := 77) (dK D_Mo_pack_0 39 rfl) rfl ha4 (fun hc9 => ?_) (fun hc9 => ?_)
      · replace h := ifN h hc9
        refine g_lload (pc := 77) (j := 0) (dK D_Mo_pack_0 42 rfl) rfl ?_
        refine vg_ldc2 (pc := 79) (y := 32) (dK D_Mo_pack_0 43 rfl) q_2061 rfl ?_
        refine vg_lmul (pc := 82) (dK D_Mo_pack_0 44 rfl) ?_
        refine g_iload (pc := 83) (j := 5) (dK D_Mo_pack_0 45 rfl) rfl ?_
        refine vg_i2l (pc := 85) (dK D_Mo_pack_0 46 rfl) ha4 ?_
        refine vg_ladd (pc := 86) (dK D_Mo_pack_0 47 rfl) ?_
        refine vg_ldc2 (pc := 87) (y := 96) (dK D_Mo_pack_0 48 rfl) q_2062 rfl ?_
        refine vg_lsub (pc := 90) (dK D_Mo_pack_0 49 rfl) ?_
        refine gtopJ (x := (wl (((v1 * 32) + a4) - 96))) rfl ?_
        exact g_lreturn (pc := 91) (dK D_Mo_pack_1 0 rfl) rfl (leK rfl) (leK rfl) (fun _ => rfl) (by obtain rfl := Option.some.inj h; exact ⟨rfl, (wl_in _), rfl⟩)
      · replace h := ifP h hc9
        refine g_lload (pc := 72) (j := 0) (dK D_Mo_pack_0 40 rfl) rfl ?_
        refine g_goto (pc := 74) (tgt := 91) (dK D_Mo_pack_0 41 rfl) rfl ?_
        exact g_lreturn (pc := 91) (dK D_Mo_pack_1 0 rfl) rfl (leK rfl) (leK rfl) (fun _ => rfl) (by obtain rfl := Option.some.inj h; exact ⟨rfl, (Jn_in e_v1), rfl⟩)
def fn_Mo_isWord (c0 : Nat) (a1 : Int) (S : St) : Option (Bool) := if (g S c0 18) = 1 then (if (gl S c0 21) = a1 then (some true) else (some false)) else (some false)
theorem tf_Mo_isWord {E : EV} {X : XT} {c0 : Nat} (hc0 : HC X 11 c0) {a1 : Int} (ha1 : inL a1) {S : St} {q : Bool} (h : fn_Mo_isWord c0 a1 S = some q) : Ev E M_Mo_isWord [.ref c0, J a1] (WX X S) 0 0 (KB X q S) := by
  refine Ev.of pn_Mo rfl (leK rfl) ?_
  show Go E M_Mo_isWord 0 0 0 [(0, .ref c0), (1, J a1)] [] (WX X S) 0 0 (KB X q S)
  unfold fn_Mo_isWord at h
  refine g_aloadn (pc := 0) (i0 := 0) (j := 0) (dK D_Mo_isWord 0 rfl) rfl rfl ?_
  refine vg_getI (pc := 1) (ci := 11) (f := 18) (dK D_Mo_isWord 1 rfl) q_1460 hc0 (ltK rfl) (ltK rfl) rfl ?_
  refine vg_iconst (pc := 4) (dK D_Mo_isWord 2 rfl) ?_
  refine vg_icmp_ne (pc := 5) (t := 21) (dK D_Mo_isWord 3 rfl) rfl (g_in _ _ _) (inRk rfl) (fun hc2 => ?_) (fun hc2 => ?_)
  · replace h := ifN h hc2
    refine vg_iconst (pc := 21) (dK D_Mo_isWord 11 rfl) ?_
    exact vg_iretB (pc := 22) (b := false) (dK D_Mo_isWord 12 rfl) rfl (leK rfl) (leK rfl) (fun _ => rfl) (by obtain rfl := Option.some.inj h; exact ⟨rfl, rfl⟩)
  · replace h := ifP h hc2
    refine g_aloadn (pc := 8) (i0 := 0) (j := 0) (dK D_Mo_isWord 4 rfl) rfl rfl ?_
    refine vg_getL (pc := 9) (ci := 11) (f := 21) (dK D_Mo_isWord 5 rfl) q_1463 hc0 (ltK rfl) (ltK rfl) rfl ?_
    refine g_lloadn (pc := 12) (i0 := 1) (j := 1) (dK D_Mo_isWord 6 rfl) rfl rfl ?_
    refine vg_lcmp_ne (pc := 13) (t := 21) (dK D_Mo_isWord 7 rfl) (dK D_Mo_isWord 8 rfl) rfl (gl_in _ _ _) ha1 (fun hc1 => ?_) (fun hc1 => ?_)
    · replace h := ifN h hc1
      refine vg_iconst (pc := 21) (dK D_Mo_isWord 11 rfl) ?_
      exact vg_iretB (pc := 22) (b := false) (dK D_Mo_isWord 12 rfl) rfl (leK rfl) (leK rfl) (fun _ => rfl) (by obtain rfl := Option.some.inj h; exact ⟨rfl, rfl⟩)
    · replace h := ifP h hc1
      refine vg_iconst (pc := 17) (dK D_Mo_isWord 9 rfl) ?_
      refine g_goto (pc := 18) (tgt := 22) (dK D_Mo_isWord 10 rfl) rfl ?_
      exact vg_iretB (pc := 22) (b := true) (dK D_Mo_isWord 12 rfl) rfl (leK rfl) (leK rfl) (fun _ => rfl) (by obtain rfl := Option.some.inj h; exact ⟨rfl, rfl⟩)
def fn_Mo_fail (c0 : Nat) (a1 : Int) (S : St) : Option (Bool × St) := nm (u S c0 16 a1) fun S1 => nm (u S1 c0 17 (g S1 c0 19)) fun S2 => some (false, S2)
theorem tf_Mo_fail {E : EV} {X : XT} {c0 : Nat} (hc0 : HC X 11 c0) {a1 : Int} (ha1 : inR a1) {S : St} {q : Bool × St} (h : fn_Mo_fail c0 a1 S = some q) : Ev E M_Mo_fail [.ref c0, V a1] (WX X S) 0 0 (KB X q.1 q.2) := by
  refine Ev.of pn_Mo rfl (leK rfl) ?_
  show Go E M_Mo_fail 0 0 0 [(0, .ref c0), (1, V a1)] [] (WX X S) 0 0 (KB X q.1 q.2)
  unfold fn_Mo_fail at h
  refine g_aloadn (pc := 0) (i0 := 0) (j := 0) (dK D_Mo_fail 0 rfl) rfl rfl ?_
  refine g_iloadn (pc := 1) (i0 := 1) (j := 1) (dK D_Mo_fail 1 rfl) rfl rfl ?_
  refine nmE h (fun S1 e_S1 h => ?_)
  refine vg_putI (pc := 2) (ci := 11) (f := 16) (z := a1) (dK D_Mo_fail 2 rfl) q_1458 hc0 (ltK rfl) (ltK rfl) rfl rfl e_S1 ?_
  refine g_aloadn (pc := 5) (i0 := 0) (j := 0) (dK D_Mo_fail 3 rfl) rfl rfl ?_
  refine g_aloadn (pc := 6) (i0 := 0) (j := 0) (dK D_Mo_fail 4 rfl) rfl rfl ?_
  refine vg_getI (pc := 7) (ci := 11) (f := 19) (dK D_Mo_fail 5 rfl) q_1461 hc0 (ltK rfl) (ltK rfl) rfl ?_
  refine nmE h (fun S2 e_S2 h => ?_)
  refine vg_putI (pc := 10) (ci := 11) (f := 17) (z := (g S1 c0 19)) (dK D_Mo_fail 6 rfl) q_1459 hc0 (ltK rfl) (ltK rfl) rfl rfl e_S2 ?_
  refine vg_iconst (pc := 13) (dK D_Mo_fail 7 rfl) ?_
  exact vg_iretB (pc := 14) (b := false) (dK D_Mo_fail 8 rfl) rfl (leK rfl) (leK rfl) (fun _ => rfl) (by obtain rfl := Option.some.inj h; exact ⟨rfl, rfl⟩)
def fn_Mo_readNumber (c0 : Nat) (a1 : Int) (a2 : Int) (S : St) : Option (Bool × St) := if (g S c0 18) = 2 then (bnO (fn_Mo_inRange (gl S c0 21) a1 a2 S) fun p1 => if p1 = true then (nm (u S c0 20 (gl S c0 21)) fun S3 => bnO (fn_Mo_advance c0 S3) fun p4 => some (true, p4)) else (bnO (fn_Mo_fail c0 2 S) fun p5 => some (p5.1, p5.2))) else (bnO (fn_Mo_fail c0 1 S) fun p6 => some (p6.1, p6.2))
theorem tf_Mo_readNumber {E : EV} {X : XT} {c0 : Nat} (hc0 : HC X 11 c0) {a1 : Int} (ha1 : inR a1) {a2 : Int} (ha2 : inR a2) {S : St} {q : Bool × St} (h : fn_Mo_readNumber c0 a1 a2 S = some q) : Ev E M_Mo_readNumber [.ref c0, V a1, V a2] (WX X S) 0 0 (KB X q.1 q.2) := by
  refine Ev.of pn_Mo rfl (leK rfl) ?_
  show Go E M_Mo_readNumber 0 0 0 [(0, .ref c0), (1, V a1), (2, V a2)] [] (WX X S) 0 0 (KB X q.1 q.2)
  unfold fn_Mo_readNumber at h
  refine g_aloadn (pc := 0) (i0 := 0) (j := 0) (dK D_Mo_readNumber 0 rfl) rfl rfl ?_
  refine vg_getI (pc := 1) (ci := 11) (f := 18) (dK D_Mo_readNumber 1 rfl) q_1460 hc0 (ltK rfl) (ltK rfl) rfl ?_
  refine vg_iconst (pc := 4) (dK D_Mo_readNumber 2 rfl) ?_
  refine vg_icmp_eq (pc := 5) (t := 14) (dK D_Mo_readNumber 3 rfl) rfl (g_in _ _ _) (inRk rfl) (fun hc7 => ?_) (fun hc7 => ?_)
  · replace h := ifP h hc7
    refine g_aloadn (pc := 14) (i0 := 0) (j := 0) (dK D_Mo_readNumber 8 rfl) rfl rfl ?_
    refine vg_getL (pc := 15) (ci := 11) (f := 21) (dK D_Mo_readNumber 9 rfl) q_1463 hc0 (ltK rfl) (ltK rfl) rfl ?_
    refine g_iloadn (pc := 18) (i0 := 1) (j := 1) (dK D_Mo_readNumber 10 rfl) rfl rfl ?_
    refine vg_i2l (pc := 19) (dK D_Mo_readNumber 11 rfl) ha1 ?_
    refine g_iloadn (pc := 20) (i0 := 2) (j := 2) (dK D_Mo_readNumber 12 rfl) rfl rfl ?_
    refine vg_i2l (pc := 21) (dK D_Mo_readNumber 13 rfl) ha2 ?_
    refine bnE h (fun p1 e_p1 h => ?_)
    refine vg_cS (pc := 22) (As := [J (gl S c0 21), J a1, J a2]) (rest := []) (mc' := 0) (ms' := 0) (dK D_Mo_readNumber 14 rfl) K_Mo_67 (fitK rfl) rfl (leK rfl) (leK rfl) (leK rfl) (tf_Mo_inRange (gl_in _ _ _) (inR_L ha1) (inR_L ha2) e_p1) (kcB ?_)
    refine vg_ifB_ne (pc := 25) (b := p1) (t := 34) (dK D_Mo_readNumber 15 rfl) rfl (fun hc2 => ?_) (fun hc2 => ?_)
    · replace h := ifP h hc2
      refine g_aloadn (pc := 34) (i0 := 0) (j := 0) (dK D_Mo_readNumber 20 rfl) rfl rfl ?_
      refine g_aloadn (pc := 35) (i0 := 0) (j := 0) (dK D_Mo_readNumber 21 rfl) rfl rfl ?_
      refine vg_getL (pc := 36) (ci := 11) (f := 21) (dK D_Mo_readNumber 22 rfl) q_1463 hc0 (ltK rfl) (ltK rfl) rfl ?_
      refine vg_l2i (pc := 39) (dK D_Mo_readNumber 23 rfl) ?_
      refine nmE h (fun S3 e_S3 h => ?_)
      refine vg_putI (pc := 40) (ci := 11) (f := 20) (z := (gl S c0 21)) (dK D_Mo_readNumber 24 rfl) q_1462 hc0 (ltK rfl) (ltK rfl) rfl rfl e_S3 ?_
      refine g_aloadn (pc := 43) (i0 := 0) (j := 0) (dK D_Mo_readNumber 25 rfl) rfl rfl ?_
      refine bnE h (fun p4 e_p4 h => ?_)
      refine vg_cV (pc := 44) (As := []) (rest := []) (mc' := 0) (ms' := 0) (dK D_Mo_readNumber 26 rfl) K_Mo_355 (fitK rfl) (ltK rfl) hc0 rfl (leK rfl) (leK rfl) (leK rfl) (tf_Mo_advance hc0 e_p4) (kcU ?_)
      refine vg_iconst (pc := 47) (dK D_Mo_readNumber 27 rfl) ?_
      exact vg_iretB (pc := 48) (b := true) (dK D_Mo_readNumber 28 rfl) rfl (leK rfl) (leK rfl) (fun _ => rfl) (by obtain rfl := Option.some.inj h; exact ⟨rfl, rfl⟩)
    · replace h := ifN h hc2
      refine g_aloadn (pc := 28) (i0 := 0) (j := 0) (dK D_Mo_readNumber 16 rfl) rfl rfl ?_
      refine vg_iconst (pc := 29) (dK D_Mo_readNumber 17 rfl) ?_
      refine bnE h (fun p5 e_p5 h => ?_)
      refine vg_cV (pc := 30) (As := [V 2]) (rest := []) (mc' := 0) (ms' := 0) (dK D_Mo_readNumber 18 rfl) K_Mo_349 (fitK rfl) (ltK rfl) hc0 rfl (leK rfl) (leK rfl) (leK rfl) (tf_Mo_fail hc0 (inRk rfl) e_p5) (kcB ?_)
      exact vg_iretB (pc := 33) (b := p5.1) (dK D_Mo_readNumber 19 rfl) rfl (leK rfl) (leK rfl) (fun _ => rfl) (by obtain rfl := Option.some.inj h; exact ⟨rfl, rfl⟩)
  · replace h := ifN h hc7
    refine g_aloadn (pc := 8) (i0 := 0) (j := 0) (dK D_Mo_readNumber 4 rfl) rfl rfl ?_
    refine vg_iconst (pc := 9) (dK D_Mo_readNumber 5 rfl) ?_
    refine bnE h (fun p6 e_p6 h => ?_)
    refine vg_cV (pc := 10) (As := [V 1]) (rest := []) (mc' := 0) (ms' := 0) (dK D_Mo_readNumber 6 rfl) K_Mo_349 (fitK rfl) (ltK rfl) hc0 rfl (leK rfl) (leK rfl) (leK rfl) (tf_Mo_fail hc0 (inRk rfl) e_p6) (kcB ?_)
    exact vg_iretB (pc := 13) (b := p6.1) (dK D_Mo_readNumber 7 rfl) rfl (leK rfl) (leK rfl) (fun _ => rfl) (by obtain rfl := Option.some.inj h; exact ⟨rfl, rfl⟩)
def fn_Mo_readEnd (c0 : Nat) (S : St) : Option (Bool × St) := if (g S c0 18) = 3 then (bnO (fn_Mo_advance c0 S) fun p1 => some (true, p1)) else (bnO (fn_Mo_fail c0 1 S) fun p2 => some (p2.1, p2.2))
theorem tf_Mo_readEnd {E : EV} {X : XT} {c0 : Nat} (hc0 : HC X 11 c0) {S : St} {q : Bool × St} (h : fn_Mo_readEnd c0 S = some q) : Ev E M_Mo_readEnd [.ref c0] (WX X S) 0 0 (KB X q.1 q.2) := by
  refine Ev.of pn_Mo rfl (leK rfl) ?_
  show Go E M_Mo_readEnd 0 0 0 [(0, .ref c0)] [] (WX X S) 0 0 (KB X q.1 q.2)
  unfold fn_Mo_readEnd at h
  refine g_aloadn (pc := 0) (i0 := 0) (j := 0) (dK D_Mo_readEnd 0 rfl) rfl rfl ?_
  refine vg_getI (pc := 1) (ci := 11) (f := 18) (dK D_Mo_readEnd 1 rfl) q_1460 hc0 (ltK rfl) (ltK rfl) rfl ?_
  refine vg_iconst (pc := 4) (dK D_Mo_readEnd 2 rfl) ?_
  refine vg_icmp_eq (pc := 5) (t := 14) (dK D_Mo_readEnd 3 rfl) rfl (g_in _ _ _) (inRk rfl) (fun hc3 => ?_) (fun hc3 => ?_)
  · replace h := ifP h hc3
    refine g_aloadn (pc := 14) (i0 := 0) (j := 0) (dK D_Mo_readEnd 8 rfl) rfl rfl ?_
    refine bnE h (fun p1 e_p1 h => ?_)
    refine vg_cV (pc := 15) (As := []) (rest := []) (mc' := 0) (ms' := 0) (dK D_Mo_readEnd 9 rfl) K_Mo_355 (fitK rfl) (ltK rfl) hc0 rfl (leK rfl) (leK rfl) (leK rfl) (tf_Mo_advance hc0 e_p1) (kcU ?_)
    refine vg_iconst (pc := 18) (dK D_Mo_readEnd 10 rfl) ?_
    exact vg_iretB (pc := 19) (b := true) (dK D_Mo_readEnd 11 rfl) rfl (leK rfl) (leK rfl) (fun _ => rfl) (by obtain rfl := Option.some.inj h; exact ⟨rfl, rfl⟩)
  · replace h := ifN h hc3
    refine g_aloadn (pc := 8) (i0 := 0) (j := 0) (dK D_Mo_readEnd 4 rfl) rfl rfl ?_
    refine vg_iconst (pc := 9) (dK D_Mo_readEnd 5 rfl) ?_
    refine bnE h (fun p2 e_p2 h => ?_)
    refine vg_cV (pc := 10) (As := [V 1]) (rest := []) (mc' := 0) (ms' := 0) (dK D_Mo_readEnd 6 rfl) K_Mo_349 (fitK rfl) (ltK rfl) hc0 rfl (leK rfl) (leK rfl) (leK rfl) (tf_Mo_fail hc0 (inRk rfl) e_p2) (kcB ?_)
    exact vg_iretB (pc := 13) (b := p2.1) (dK D_Mo_readEnd 7 rfl) rfl (leK rfl) (leK rfl) (fun _ => rfl) (by obtain rfl := Option.some.inj h; exact ⟨rfl, rfl⟩)
def fn_Mo_readPlan (c0 : Nat) (S : St) : Option (Bool × St) := bnO (fn_Mo_advance c0 S) fun p1 => bnO (fn_Mo_readNumber c0 1 4 p1) fun p2 => if p2.1 = true then (nm (u p2.2 c0 1 (g p2.2 c0 20)) fun S4 => if (g S4 c0 18) = 2 then (if (gl S4 c0 21) = 4 then (bnO (fn_Mo_readNumber c0 4 16 S4) fun p9 => if p9.1 = true then (nm (u p9.2 c0 2 (g p9.2 c0 20)) fun S11 => bnO (fn_Mo_readEnd c0 S11) fun p12 => some (p12.1, p12.2)) else (some (false, p9.2))) else (if (gl S4 c0 21) = 8 then (bnO (fn_Mo_readNumber c0 4 16 S4) fun p13 => if p13.1 = true then (nm (u p13.2 c0 2 (g p13.2 c0 20)) fun S15 => bnO (fn_Mo_readEnd c0 S15) fun p16 => some (p16.1, p16.2)) else (some (false, p13.2))) else (if (gl S4 c0 21) = 16 then (bnO (fn_Mo_readNumber c0 4 16 S4) fun p17 => if p17.1 = true then (nm (u p17.2 c0 2 (g p17.2 c0 20)) fun S19 => bnO (fn_Mo_readEnd c0 S19) fun p20 => some (p20.1, p20.2)) else (some (false, p17.2))) else (bnO (fn_Mo_fail c0 2 S4) fun p21 => some (p21.1, p21.2))))) else (bnO (fn_Mo_readNumber c0 4 16 S4) fun p5 => if p5.1 = true then (nm (u p5.2 c0 2 (g p5.2 c0 20)) fun S7 => bnO (fn_Mo_readEnd c0 S7) fun p8 => some (p8.1, p8.2)) else (some (false, p5.2)))) else (some (false, p2.2))
set_option maxHeartbeats 20000000 in
theorem tf_Mo_readPlan {E : EV} {X : XT} {c0 : Nat} (hc0 : HC X 11 c0) {S : St} {q : Bool × St} (h : fn_Mo_readPlan c0 S = some q) : Ev E M_Mo_readPlan [.ref c0] (WX X S) 0 0 (KB X q.1 q.2) := by
  refine Ev.of pn_Mo rfl (leK rfl) ?_
  show Go E M_Mo_readPlan 0 0 0 [(0, .ref c0)] [] (WX X S) 0 0 (KB X q.1 q.2)
  unfold fn_Mo_readPlan at h
  refine g_aloadn (pc := 0) (i0 := 0) (j := 0) (dK D_Mo_readPlan 0 rfl) rfl rfl ?_
  refine bnE h (fun p1 e_p1 h => ?_)
  refine vg_cV (pc := 1) (As := []) (rest := []) (mc' := 0) (ms' := 0) (dK D_Mo_readPlan 1 rfl) K_Mo_355 (fitK rfl) (ltK rfl) hc0 rfl (leK rfl) (leK rfl) (leK rfl) (tf_Mo_advance hc0 e_p1) (kcU ?_)
  refine g_aloadn (pc := 4) (i0 := 0) (j := 0) (dK D_Mo_readPlan 2 rfl) rfl rfl ?_
  refine vg_iconst (pc := 5) (dK D_Mo_readPlan 3 rfl) ?_
  refine vg_iconst (pc := 6) (dK D_Mo_readPlan 4 rfl) ?_
  refine bnE h (fun p2 e_p2 h => ?_)
  refine vg_cV (pc := 7) (As := [V 1, V 4]) (rest := []) (mc' := 0) (ms' := 0) (dK D_Mo_readPlan 5 rfl) K_Mo_358 (fitK rfl) (ltK rfl) hc0 rfl (leK rfl) (leK rfl) (leK rfl) (tf_Mo_readNumber hc0 (inRk rfl) (inRk rfl) e_p2) (kcB ?_)
  refine vg_ifB_ne (pc := 10) (b := p2.1) (t := 15) (dK D_Mo_readPlan 6 rfl) rfl (fun hc3 => ?_) (fun hc3 => ?_)
  · replace h := ifP h hc3
    refine g_aloadn (pc := 15) (i0 := 0) (j := 0) (dK D_Mo_readPlan 9 rfl) rfl rfl ?_
    refine g_aloadn (pc := 16) (i0 := 0) (j := 0) (dK D_Mo_readPlan 10 rfl) rfl rfl ?_
    refine vg_getI (pc := 17) (ci := 11) (f := 20) (dK D_Mo_readPlan 11 rfl) q_1462 hc0 (ltK rfl) (ltK rfl) rfl ?_
    refine nmE h (fun S4 e_S4 h => ?_)
    refine vg_putI (pc := 20) (ci := 11) (f := 1) (z := (g p2.2 c0 20)) (dK D_Mo_readPlan 12 rfl) q_1443 hc0 (ltK rfl) (ltK rfl) rfl rfl e_S4 ?_
    refine g_aloadn (pc := 23) (i0 := 0) (j := 0) (dK D_Mo_readPlan 13 rfl) rfl rfl ?_
    refine vg_getI (pc := 24) (ci := 11) (f := 18) (dK D_Mo_readPlan 14 rfl) q_1460 hc0 (ltK rfl) (ltK rfl) rfl ?_
    refine vg_iconst (pc := 27) (dK D_Mo_readPlan 15 rfl) ?_
    refine vg_icmp_ne (pc := 28) (t := 70) (dK D_Mo_readPlan 16 rfl) rfl (g_in _ _ _) (inRk rfl) (fun hc25 => ?_) (fun hc25 => ?_)
    · replace h := ifN h hc25
      refine g_aloadn (pc := 70) (i0 := 0) (j := 0) (dK D_Mo_readPlan 36 rfl) rfl rfl ?_
      refine vg_iconst (pc := 71) (dK D_Mo_readPlan 37 rfl) ?_
      refine vg_bipush (pc := 72) (dK D_Mo_readPlan 38 rfl) rfl ?_
      refine bnE h (fun p5 e_p5 h => ?_)
      refine vg_cV (pc := 74) (As := [V 4, V 16]) (rest := []) (mc' := 0) (ms' := 0) (dK D_Mo_readPlan 39 rfl) K_Mo_358 (fitK rfl) (ltK rfl) hc0 rfl (leK rfl) (leK rfl) (leK rfl) (tf_Mo_readNumber hc0 (inRk rfl) (inRk rfl) e_p5) (kcB ?_)
      refine vg_ifB_ne (pc := 77) (b := p5.1) (t := 82) (dK D_Mo_readPlan 40 rfl) rfl (fun hc6 => ?_) (fun hc6 => ?_)
      · replace h := ifP h hc6
        refine g_aloadn (pc := 82) (i0 := 0) (j := 0) (dK D_Mo_readPlan 43 rfl) rfl rfl ?_
        refine g_aloadn (pc := 83) (i0 := 0) (j := 0) (dK D_Mo_readPlan 44 rfl) rfl rfl ?_
        refine vg_getI (pc := 84) (ci := 11) (f := 20) (dK D_Mo_readPlan 45 rfl) q_1462 hc0 (ltK rfl) (ltK rfl) rfl ?_
        refine nmE h (fun S7 e_S7 h => ?_)
        refine vg_putI (pc := 87) (ci := 11) (f := 2) (z := (g p5.2 c0 20)) (dK D_Mo_readPlan 46 rfl) q_1444 hc0 (ltK rfl) (ltK rfl) rfl rfl e_S7 ?_
        refine g_aloadn (pc := 90) (i0 := 0) (j := 0) (dK D_Mo_readPlan 47 rfl) rfl rfl ?_
        refine bnE h (fun p8 e_p8 h => ?_)
        refine vg_cV (pc := 91) (As := []) (rest := []) (mc' := 0) (ms' := 0) (dK D_Mo_readPlan 48 rfl) K_Mo_369 (fitK rfl) (ltK rfl) hc0 rfl (leK rfl) (leK rfl) (leK rfl) (tf_Mo_readEnd hc0 e_p8) (kcB ?_)
        exact vg_iretB (pc := 94) (b := p8.1) (dK D_Mo_readPlan 49 rfl) rfl (leK rfl) (leK rfl) (fun _ => rfl) (by obtain rfl := Option.some.inj h; exact ⟨rfl, rfl⟩)
      · replace h := ifN h hc6
        refine vg_iconst (pc := 80) (dK D_Mo_readPlan 41 rfl) ?_
        exact vg_iretB (pc := 81) (b := false) (dK D_Mo_readPlan 42 rfl) rfl (leK rfl) (leK rfl) (fun _ => rfl) (by obtain rfl := Option.some.inj h; exact ⟨rfl, rfl⟩)
    · replace h := ifP h hc25
      refine g_aloadn (pc := 31) (i0 := 0) (j := 0) (dK D_Mo_readPlan 17 rfl) rfl rfl ?_
      refine vg_getL (pc := 32) (ci := 11) (f := 21) (dK D_Mo_readPlan 18 rfl) q_1463 hc0 (ltK rfl) (ltK rfl) rfl ?_
      refine vg_ldc2 (pc := 35) (y := 4) (dK D_Mo_readPlan 19 rfl) q_2083 rfl ?_
      refine vg_lcmp_eq (pc := 38) (t := 70) (dK D_Mo_readPlan 20 rfl) (dK D_Mo_readPlan 21 rfl) rfl (gl_in _ _ _) (inLk rfl) (fun hc24 => ?_) (fun hc24 => ?_)
      · replace h := ifP h hc24
        refine g_aloadn (pc := 70) (i0 := 0) (j := 0) (dK D_Mo_readPlan 36 rfl) rfl rfl ?_
        refine vg_iconst (pc := 71) (dK D_Mo_readPlan 37 rfl) ?_
        refine vg_bipush (pc := 72) (dK D_Mo_readPlan 38 rfl) rfl ?_
        refine bnE h (fun p9 e_p9 h => ?_)
        refine vg_cV (pc := 74) (As := [V 4, V 16]) (rest := []) (mc' := 0) (ms' := 0) (dK D_Mo_readPlan 39 rfl) K_Mo_358 (fitK rfl) (ltK rfl) hc0 rfl (leK rfl) (leK rfl) (leK rfl) (tf_Mo_readNumber hc0 (inRk rfl) (inRk rfl) e_p9) (kcB ?_)
        refine vg_ifB_ne (pc := 77) (b := p9.1) (t := 82) (dK D_Mo_readPlan 40 rfl) rfl (fun hc10 => ?_) (fun hc10 => ?_)
        · replace h := ifP h hc10
          refine g_aloadn (pc := 82) (i0 := 0) (j := 0) (dK D_Mo_readPlan 43 rfl) rfl rfl ?_
          refine g_aloadn (pc := 83) (i0 := 0) (j := 0) (dK D_Mo_readPlan 44 rfl) rfl rfl ?_
          refine vg_getI (pc := 84) (ci := 11) (f := 20) (dK D_Mo_readPlan 45 rfl) q_1462 hc0 (ltK rfl) (ltK rfl) rfl ?_
          refine nmE h (fun S11 e_S11 h => ?_)
          refine vg_putI (pc := 87) (ci := 11) (f := 2) (z := (g p9.2 c0 20)) (dK D_Mo_readPlan 46 rfl) q_1444 hc0 (ltK rfl) (ltK rfl) rfl rfl e_S11 ?_
          refine g_aloadn (pc := 90) (i0 := 0) (j := 0) (dK D_Mo_readPlan 47 rfl) rfl rfl ?_
          refine bnE h (fun p12 e_p12 h => ?_)
          refine vg_cV (pc := 91) (As := []) (rest := []) (mc' := 0) (ms' := 0) (dK D_Mo_readPlan 48 rfl) K_Mo_369 (fitK rfl) (ltK rfl) hc0 rfl (leK rfl) (leK rfl) (leK rfl) (tf_Mo_readEnd hc0 e_p12) (kcB ?_)
          exact vg_iretB (pc := 94) (b := p12.1) (dK D_Mo_readPlan 49 rfl) rfl (leK rfl) (leK rfl) (fun _ => rfl) (by obtain rfl := Option.some.inj h; exact ⟨rfl, rfl⟩)
        · replace h := ifN h hc10
          refine vg_iconst (pc := 80) (dK D_Mo_readPlan 41 rfl) ?_
          exact vg_iretB (pc := 81) (b := false) (dK D_Mo_readPlan 42 rfl) rfl (leK rfl) (leK rfl) (fun _ => rfl) (by obtain rfl := Option.some.inj h; exact ⟨rfl, rfl⟩)
      · replace h := ifN h hc24
        refine g_aloadn (pc := 42) (i0 := 0) (j := 0) (dK D_Mo_readPlan 22 rfl) rfl rfl ?_
        refine vg_getL (pc := 43) (ci := 11) (f := 21) (dK D_Mo_readPlan 23 rfl) q_1463 hc0 (ltK rfl) (ltK rfl) rfl ?_
        refine vg_ldc2 (pc := 46) (y := 8) (dK D_Mo_readPlan 24 rfl) q_1917 rfl ?_
        refine vg_lcmp_eq (pc := 49) (t := 70) (dK D_Mo_readPlan 25 rfl) (dK D_Mo_readPlan 26 rfl) rfl (gl_in _ _ _) (inLk rfl) (fun hc23 => ?_) (fun hc23 => ?_)
        · replace h := ifP h hc23
          refine g_aloadn (pc := 70) (i0 := 0) (j := 0) (dK D_Mo_readPlan 36 rfl) rfl rfl ?_
          refine vg_iconst (pc := 71) (dK D_Mo_readPlan 37 rfl) ?_
          refine vg_bipush (pc := 72) (dK D_Mo_readPlan 38 rfl) rfl ?_
          refine bnE h (fun p13 e_p13 h => ?_)
          refine vg_cV (pc := 74) (As := [V 4, V 16]) (rest := []) (mc' := 0) (ms' := 0) (dK D_Mo_readPlan 39 rfl) K_Mo_358 (fitK rfl) (ltK rfl) hc0 rfl (leK rfl) (leK rfl) (leK rfl) (tf_Mo_readNumber hc0 (inRk rfl) (inRk rfl) e_p13) (kcB ?_)
          refine vg_ifB_ne (pc := 77) (b := p13.1) (t := 82) (dK D_Mo_readPlan 40 rfl) rfl (fun hc14 => ?_) (fun hc14 => ?_)
          · replace h := ifP h hc14
            refine g_aloadn (pc := 82) (i0 := 0) (j := 0) (dK D_Mo_readPlan 43 rfl) rfl rfl ?_
            refine g_aloadn (pc := 83) (i0 := 0) (j := 0) (dK D_Mo_readPlan 44 rfl) rfl rfl ?_
            refine vg_getI (pc := 84) (ci := 11) (f := 20) (dK D_Mo_readPlan 45 rfl) q_1462 hc0 (ltK rfl) (ltK rfl) rfl ?_
            refine nmE h (fun S15 e_S15 h => ?_)
            refine vg_putI (pc := 87) (ci := 11) (f := 2) (z := (g p13.2 c0 20)) (dK D_Mo_readPlan 46 rfl) q_1444 hc0 (ltK rfl) (ltK rfl) rfl rfl e_S15 ?_
            refine g_aloadn (pc := 90) (i0 := 0) (j := 0) (dK D_Mo_readPlan 47 rfl) rfl rfl ?_
            refine bnE h (fun p16 e_p16 h => ?_)
            refine vg_cV (pc := 91) (As := []) (rest := []) (mc' := 0) (ms' := 0) (dK D_Mo_readPlan 48 rfl) K_Mo_369 (fitK rfl) (ltK rfl) hc0 rfl (leK rfl) (leK rfl) (leK rfl) (tf_Mo_readEnd hc0 e_p16) (kcB ?_)
            exact vg_iretB (pc := 94) (b := p16.1) (dK D_Mo_readPlan 49 rfl) rfl (leK rfl) (leK rfl) (fun _ => rfl) (by obtain rfl := Option.some.inj h; exact ⟨rfl, rfl⟩)
          · replace h := ifN h hc14
            refine vg_iconst (pc := 80) (dK D_Mo_readPlan 41 rfl) ?_
            exact vg_iretB (pc := 81) (b := false) (dK D_Mo_readPlan 42 rfl) rfl (leK rfl) (leK rfl) (fun _ => rfl) (by obtain rfl := Option.some.inj h; exact ⟨rfl, rfl⟩)
        · replace h := ifN h hc23
          refine g_aloadn (pc := 53) (i0 := 0) (j := 0) (dK D_Mo_readPlan 27 rfl) rfl rfl ?_
          refine vg_getL (pc := 54) (ci := 11) (f := 21) (dK D_Mo_readPlan 28 rfl) q_1463 hc0 (ltK rfl) (ltK rfl) rfl ?_
          refine vg_ldc2 (pc := 57) (y := 16) (dK D_Mo_readPlan 29 rfl) q_2084 rfl ?_
          refine vg_lcmp_eq (pc := 60) (t := 70) (dK D_Mo_readPlan 30 rfl) (dK D_Mo_readPlan 31 rfl) rfl (gl_in _ _ _) (inLk rfl) (fun hc22 => ?_) (fun hc22 => ?_)
          · replace h := ifP h hc22
            refine g_aloadn (pc := 70) (i0 := 0) (j := 0) (dK D_Mo_readPlan 36 rfl) rfl rfl ?_
            refine vg_iconst (pc := 71) (dK D_Mo_readPlan 37 rfl) ?_
            refine vg_bipush (pc := 72) (dK D_Mo_readPlan 38 rfl) rfl ?_
            refine bnE h (fun p17 e_p17 h => ?_)
            refine vg_cV (pc := 74) (As := [V 4, V 16]) (rest := []) (mc' := 0) (ms' := 0) (dK D_Mo_readPlan 39 rfl) K_Mo_358 (fitK rfl) (ltK rfl) hc0 rfl (leK rfl) (leK rfl) (leK rfl) (tf_Mo_readNumber hc0 (inRk rfl) (inRk rfl) e_p17) (kcB ?_)
            refine vg_ifB_ne (pc := 77) (b := p17.1) (t := 82) (dK D_Mo_readPlan 40 rfl) rfl (fun hc18 => ?_) (fun hc18 => ?_)
            · replace h := ifP h hc18
              refine g_aloadn (pc := 82) (i0 := 0) (j := 0) (dK D_Mo_readPlan 43 rfl) rfl rfl ?_
              refine g_aloadn (pc := 83) (i0 := 0) (j := 0) (dK D_Mo_readPlan 44 rfl) rfl rfl ?_
              refine vg_getI (pc := 84) (ci := 11) (f := 20) (dK D_Mo_readPlan 45 rfl) q_1462 hc0 (ltK rfl) (ltK rfl) rfl ?_
              refine nmE h (fun S19 e_S19 h => ?_)
              refine vg_putI (pc := 87) (ci := 11) (f := 2) (z := (g p17.2 c0 20)) (dK D_Mo_readPlan 46 rfl) q_1444 hc0 (ltK rfl) (ltK rfl) rfl rfl e_S19 ?_
              refine g_aloadn (pc := 90) (i0 := 0) (j := 0) (dK D_Mo_readPlan 47 rfl) rfl rfl ?_
              refine bnE h (fun p20 e_p20 h => ?_)
              refine vg_cV (pc := 91) (As := []) (rest := []) (mc' := 0) (ms' := 0) (dK D_Mo_readPlan 48 rfl) K_Mo_369 (fitK rfl) (ltK rfl) hc0 rfl (leK rfl) (leK rfl) (leK rfl) (tf_Mo_readEnd hc0 e_p20) (kcB ?_)
              exact vg_iretB (pc := 94) (b := p20.1) (dK D_Mo_readPlan 49 rfl) rfl (leK rfl) (leK rfl) (fun _ => rfl) (by obtain rfl := Option.some.inj h; exact ⟨rfl, rfl⟩)
            · replace h := ifN h hc18
              refine vg_iconst (pc := 80) (dK D_Mo_readPlan 41 rfl) ?_
              exact vg_iretB (pc := 81) (b := false) (dK D_Mo_readPlan 42 rfl) rfl (leK rfl) (leK rfl) (fun _ => rfl) (by obtain rfl := Option.some.inj h; exact ⟨rfl, rfl⟩)
          · replace h := ifN h hc22
            refine g_aloadn (pc := 64) (i0 := 0) (j := 0) (dK D_Mo_readPlan 32 rfl) rfl rfl ?_
            refine vg_iconst (pc := 65) (dK D_Mo_readPlan 33 rfl) ?_
            refine bnE h (fun p21 e_p21 h => ?_)
            refine vg_cV (pc := 66) (As := [V 2]) (rest := []) (mc' := 0) (ms' := 0) (dK D_Mo_readPlan 34 rfl) K_Mo_349 (fitK rfl) (ltK rfl) hc0 rfl (leK rfl) (leK rfl) (leK rfl) (tf_Mo_fail hc0 (inRk rfl) e_p21) (kcB ?_)
            exact vg_iretB (pc := 69) (b := p21.1) (dK D_Mo_readPlan 35 rfl) rfl (leK rfl) (leK rfl) (fun _ => rfl) (by obtain rfl := Option.some.inj h; exact ⟨rfl, rfl⟩)
  · replace h := ifN h hc3
    refine vg_iconst (pc := 13) (dK D_Mo_readPlan 7 rfl) ?_
    exact vg_iretB (pc := 14) (b := false) (dK D_Mo_readPlan 8 rfl) rfl (leK rfl) (leK rfl) (fun _ => rfl) (by obtain rfl := Option.some.inj h; exact ⟨rfl, rfl⟩)
def fn_Mo_readColor (c0 : Nat) (S : St) : Option (Bool × St) := bnO (fn_Mo_advance c0 S) fun p1 => bnO (fn_Mo_formMany c0 p1) fun p2 => nm (wr (p2 - 1)) fun v3 => bnO (fn_Mo_readNumber c0 0 v3 p1) fun p4 => if p4.1 = true then (bnO (fn_Mo_setForm c0 (g p4.2 c0 20) 0 1 p4.2) fun p6 => bnO (fn_Mo_readEnd c0 p6) fun p7 => some (p7.1, p7.2)) else (some (false, p4.2))
theorem tf_Mo_readColor {E : EV} {X : XT} {c0 : Nat} (hc0 : HC X 11 c0) {S : St} {q : Bool × St} (h : fn_Mo_readColor c0 S = some q) : Ev E M_Mo_readColor [.ref c0] (WX X S) 0 0 (KB X q.1 q.2) := by
  refine Ev.of pn_Mo rfl (leK rfl) ?_
  show Go E M_Mo_readColor 0 0 0 [(0, .ref c0)] [] (WX X S) 0 0 (KB X q.1 q.2)
  unfold fn_Mo_readColor at h
  refine g_aloadn (pc := 0) (i0 := 0) (j := 0) (dK D_Mo_readColor 0 rfl) rfl rfl ?_
  refine bnE h (fun p1 e_p1 h => ?_)
  refine vg_cV (pc := 1) (As := []) (rest := []) (mc' := 0) (ms' := 0) (dK D_Mo_readColor 1 rfl) K_Mo_355 (fitK rfl) (ltK rfl) hc0 rfl (leK rfl) (leK rfl) (leK rfl) (tf_Mo_advance hc0 e_p1) (kcU ?_)
  refine g_aloadn (pc := 4) (i0 := 0) (j := 0) (dK D_Mo_readColor 2 rfl) rfl rfl ?_
  refine vg_iconst (pc := 5) (dK D_Mo_readColor 3 rfl) ?_
  refine g_aloadn (pc := 6) (i0 := 0) (j := 0) (dK D_Mo_readColor 4 rfl) rfl rfl ?_
  refine bnE h (fun p2 e_p2 h => ?_)
  refine vg_cV (pc := 7) (As := []) (rest := [V 0, .ref c0]) (mc' := 0) (ms' := 0) (dK D_Mo_readColor 5 rfl) K_Mo_71 (fitK rfl) (ltK rfl) hc0 rfl (leK rfl) (leK rfl) (leK rfl) (tf_Mo_formMany hc0 e_p2) (kcI (fun h_p2 => ?_))
  refine vg_iconst (pc := 10) (dK D_Mo_readColor 6 rfl) ?_
  refine vg_isub (pc := 11) (dK D_Mo_readColor 7 rfl) ?_
  refine nmE h (fun v3 e_v3 h => ?_)
  refine gtop e_v3 ?_
  refine bnE h (fun p4 e_p4 h => ?_)
  refine vg_cV (pc := 12) (As := [V 0, V v3]) (rest := []) (mc' := 0) (ms' := 0) (dK D_Mo_readColor 8 rfl) K_Mo_358 (fitK rfl) (ltK rfl) hc0 rfl (leK rfl) (leK rfl) (leK rfl) (tf_Mo_readNumber hc0 (inRk rfl) (Vn_in e_v3) e_p4) (kcB ?_)
  refine vg_ifB_ne (pc := 15) (b := p4.1) (t := 20) (dK D_Mo_readColor 9 rfl) rfl (fun hc5 => ?_) (fun hc5 => ?_)
  · replace h := ifP h hc5
    refine g_aloadn (pc := 20) (i0 := 0) (j := 0) (dK D_Mo_readColor 12 rfl) rfl rfl ?_
    refine g_aloadn (pc := 21) (i0 := 0) (j := 0) (dK D_Mo_readColor 13 rfl) rfl rfl ?_
    refine vg_getI (pc := 22) (ci := 11) (f := 20) (dK D_Mo_readColor 14 rfl) q_1462 hc0 (ltK rfl) (ltK rfl) rfl ?_
    refine vg_iconst (pc := 25) (dK D_Mo_readColor 15 rfl) ?_
    refine vg_iconst (pc := 26) (dK D_Mo_readColor 16 rfl) ?_
    refine bnE h (fun p6 e_p6 h => ?_)
    refine vg_cV (pc := 27) (As := [V (g p4.2 c0 20), V 0, V 1]) (rest := []) (mc' := 0) (ms' := 0) (dK D_Mo_readColor 17 rfl) K_Mo_232 (fitK rfl) (ltK rfl) hc0 rfl (leK rfl) (leK rfl) (leK rfl) (tf_Mo_setForm hc0 (g_in _ _ _) (inRk rfl) (inRk rfl) e_p6) (kcU ?_)
    refine g_aloadn (pc := 30) (i0 := 0) (j := 0) (dK D_Mo_readColor 18 rfl) rfl rfl ?_
    refine bnE h (fun p7 e_p7 h => ?_)
    refine vg_cV (pc := 31) (As := []) (rest := []) (mc' := 0) (ms' := 0) (dK D_Mo_readColor 19 rfl) K_Mo_369 (fitK rfl) (ltK rfl) hc0 rfl (leK rfl) (leK rfl) (leK rfl) (tf_Mo_readEnd hc0 e_p7) (kcB ?_)
    exact vg_iretB (pc := 34) (b := p7.1) (dK D_Mo_readColor 20 rfl) rfl (leK rfl) (leK rfl) (fun _ => rfl) (by obtain rfl := Option.some.inj h; exact ⟨rfl, rfl⟩)
  · replace h := ifN h hc5
    refine vg_iconst (pc := 18) (dK D_Mo_readColor 10 rfl) ?_
    exact vg_iretB (pc := 19) (b := false) (dK D_Mo_readColor 11 rfl) rfl (leK rfl) (leK rfl) (fun _ => rfl) (by obtain rfl := Option.some.inj h; exact ⟨rfl, rfl⟩)
def fn_Mo_readInto (c0 : Nat) (a1 : Int) (a2 : Int) (a3 : Int) (S : St) : Option (Bool × St) := bnO (fn_Mo_readNumber c0 a2 a3 S) fun p1 => if p1.1 = true then (if 0 ≤ a1 ∧ a1 < 8740 then (nm (u p1.2 (tgt c0 0) a1.toNat (g p1.2 c0 20)) fun S4 => some (true, S4)) else none) else (some (false, p1.2))
theorem tf_Mo_readInto {E : EV} {X : XT} {c0 : Nat} (hc0 : HC X 11 c0) {a1 : Int} (ha1 : inR a1) {a2 : Int} (ha2 : inR a2) {a3 : Int} (ha3 : inR a3) {S : St} {q : Bool × St} (h : fn_Mo_readInto c0 a1 a2 a3 S = some q) : Ev E M_Mo_readInto [.ref c0, V a1, V a2, V a3] (WX X S) 0 0 (KB X q.1 q.2) := by
  refine Ev.of pn_Mo rfl (leK rfl) ?_
  show Go E M_Mo_readInto 0 0 0 [(0, .ref c0), (1, V a1), (2, V a2), (3, V a3)] [] (WX X S) 0 0 (KB X q.1 q.2)
  unfold fn_Mo_readInto at h
  refine g_aloadn (pc := 0) (i0 := 0) (j := 0) (dK D_Mo_readInto 0 rfl) rfl rfl ?_
  refine g_iloadn (pc := 1) (i0 := 2) (j := 2) (dK D_Mo_readInto 1 rfl) rfl rfl ?_
  refine g_iloadn (pc := 2) (i0 := 3) (j := 3) (dK D_Mo_readInto 2 rfl) rfl rfl ?_
  refine bnE h (fun p1 e_p1 h => ?_)
  refine vg_cV (pc := 3) (As := [V a2, V a3]) (rest := []) (mc' := 0) (ms' := 0) (dK D_Mo_readInto 3 rfl) K_Mo_358 (fitK rfl) (ltK rfl) hc0 rfl (leK rfl) (leK rfl) (leK rfl) (tf_Mo_readNumber hc0 ha2 ha3 e_p1) (kcB ?_)
  refine vg_ifB_ne (pc := 6) (b := p1.1) (t := 11) (dK D_Mo_readInto 4 rfl) rfl (fun hc2 => ?_) (fun hc2 => ?_)
  · replace h := ifP h hc2
    refine g_aloadn (pc := 11) (i0 := 0) (j := 0) (dK D_Mo_readInto 7 rfl) rfl rfl ?_
    refine vg_getA (pc := 12) (ci := 11) (f := 0) (dK D_Mo_readInto 8 rfl) q_1442 hc0 (ltK rfl) (ltK rfl) rfl ?_
    refine g_iloadn (pc := 15) (i0 := 1) (j := 1) (dK D_Mo_readInto 9 rfl) rfl rfl ?_
    refine g_aloadn (pc := 16) (i0 := 0) (j := 0) (dK D_Mo_readInto 10 rfl) rfl rfl ?_
    refine vg_getI (pc := 17) (ci := 11) (f := 20) (dK D_Mo_readInto 11 rfl) q_1462 hc0 (ltK rfl) (ltK rfl) rfl ?_
    refine gdE h (fun hi3 h => ?_)
    refine nmE h (fun S4 e_S4 h => ?_)
    refine vg_iastore (pc := 20) (z := (g p1.2 c0 20)) (dK D_Mo_readInto 12 rfl) (hw_11_0 hc0) rfl hi3 rfl e_S4 ?_
    refine vg_iconst (pc := 21) (dK D_Mo_readInto 13 rfl) ?_
    exact vg_iretB (pc := 22) (b := true) (dK D_Mo_readInto 14 rfl) rfl (leK rfl) (leK rfl) (fun _ => rfl) (by obtain rfl := Option.some.inj h; exact ⟨rfl, rfl⟩)
  · replace h := ifN h hc2
    refine vg_iconst (pc := 9) (dK D_Mo_readInto 5 rfl) ?_
    exact vg_iretB (pc := 10) (b := false) (dK D_Mo_readInto 6 rfl) rfl (leK rfl) (leK rfl) (fun _ => rfl) (by obtain rfl := Option.some.inj h; exact ⟨rfl, rfl⟩)
def fn_Mo_readSize (c0 : Nat) (a1 : Int) (S : St) : Option (Bool × St) := if (g S c0 18) = 2 then (nm (wr (gl S c0 21)) fun v2 => bnO (fn_Mo_isSize v2 S) fun p3 => if p3 = true then (bnO (fn_Mo_readInto c0 a1 1 4 S) fun p5 => some (p5.1, p5.2)) else (bnO (fn_Mo_fail c0 2 S) fun p6 => some (p6.1, p6.2))) else (bnO (fn_Mo_readInto c0 a1 1 4 S) fun p1 => some (p1.1, p1.2))
theorem tf_Mo_readSize {E : EV} {X : XT} {c0 : Nat} (hc0 : HC X 11 c0) {a1 : Int} (ha1 : inR a1) {S : St} {q : Bool × St} (h : fn_Mo_readSize c0 a1 S = some q) : Ev E M_Mo_readSize [.ref c0, V a1] (WX X S) 0 0 (KB X q.1 q.2) := by
  refine Ev.of pn_Mo rfl (leK rfl) ?_
  show Go E M_Mo_readSize 0 0 0 [(0, .ref c0), (1, V a1)] [] (WX X S) 0 0 (KB X q.1 q.2)
  unfold fn_Mo_readSize at h
  refine g_aloadn (pc := 0) (i0 := 0) (j := 0) (dK D_Mo_readSize 0 rfl) rfl rfl ?_
  refine vg_getI (pc := 1) (ci := 11) (f := 18) (dK D_Mo_readSize 1 rfl) q_1460 hc0 (ltK rfl) (ltK rfl) rfl ?_
  refine vg_iconst (pc := 4) (dK D_Mo_readSize 2 rfl) ?_
  refine vg_icmp_ne (pc := 5) (t := 25) (dK D_Mo_readSize 3 rfl) rfl (g_in _ _ _) (inRk rfl) (fun hc7 => ?_) (fun hc7 => ?_)
  · replace h := ifN h hc7
    refine g_aloadn (pc := 25) (i0 := 0) (j := 0) (dK D_Mo_readSize 13 rfl) rfl rfl ?_
    refine g_iloadn (pc := 26) (i0 := 1) (j := 1) (dK D_Mo_readSize 14 rfl) rfl rfl ?_
    refine vg_iconst (pc := 27) (dK D_Mo_readSize 15 rfl) ?_
    refine vg_iconst (pc := 28) (dK D_Mo_readSize 16 rfl) ?_
    refine bnE h (fun p1 e_p1 h => ?_)
    refine vg_cV (pc := 29) (As := [V a1, V 1, V 4]) (rest := []) (mc' := 0) (ms' := 0) (dK D_Mo_readSize 17 rfl) K_Mo_361 (fitK rfl) (ltK rfl) hc0 rfl (leK rfl) (leK rfl) (leK rfl) (tf_Mo_readInto hc0 ha1 (inRk rfl) (inRk rfl) e_p1) (kcB ?_)
    exact vg_iretB (pc := 32) (b := p1.1) (dK D_Mo_readSize 18 rfl) rfl (leK rfl) (leK rfl) (fun _ => rfl) (by obtain rfl := Option.some.inj h; exact ⟨rfl, rfl⟩)
  · replace h := ifP h hc7
    refine g_aloadn (pc := 8) (i0 := 0) (j := 0) (dK D_Mo_readSize 4 rfl) rfl rfl ?_
    refine vg_getL (pc := 9) (ci := 11) (f := 21) (dK D_Mo_readSize 5 rfl) q_1463 hc0 (ltK rfl) (ltK rfl) rfl ?_
    refine vg_l2i (pc := 12) (dK D_Mo_readSize 6 rfl) ?_
    refine nmE h (fun v2 e_v2 h => ?_)
    refine gtop e_v2 ?_
    refine bnE h (fun p3 e_p3 h => ?_)
    refine vg_cS (pc := 13) (As := [V v2]) (rest := []) (mc' := 0) (ms' := 0) (dK D_Mo_readSize 7 rfl) K_Mo_150 (fitK rfl) rfl (leK rfl) (leK rfl) (leK rfl) (tf_Mo_isSize (Vn_in e_v2) e_p3) (kcB ?_)
    refine vg_ifB_ne (pc := 16) (b := p3) (t := 25) (dK D_Mo_readSize 8 rfl) rfl (fun hc4 => ?_) (fun hc4 => ?_)
    · replace h := ifP h hc4
      refine g_aloadn (pc := 25) (i0 := 0) (j := 0) (dK D_Mo_readSize 13 rfl) rfl rfl ?_
      refine g_iloadn (pc := 26) (i0 := 1) (j := 1) (dK D_Mo_readSize 14 rfl) rfl rfl ?_
      refine vg_iconst (pc := 27) (dK D_Mo_readSize 15 rfl) ?_
      refine vg_iconst (pc := 28) (dK D_Mo_readSize 16 rfl) ?_
      refine bnE h (fun p5 e_p5 h => ?_)
      refine vg_cV (pc := 29) (As := [V a1, V 1, V 4]) (rest := []) (mc' := 0) (ms' := 0) (dK D_Mo_readSize 17 rfl) K_Mo_361 (fitK rfl) (ltK rfl) hc0 rfl (leK rfl) (leK rfl) (leK rfl) (tf_Mo_readInto hc0 ha1 (inRk rfl) (inRk rfl) e_p5) (kcB ?_)
      exact vg_iretB (pc := 32) (b := p5.1) (dK D_Mo_readSize 18 rfl) rfl (leK rfl) (leK rfl) (fun _ => rfl) (by obtain rfl := Option.some.inj h; exact ⟨rfl, rfl⟩)
    · replace h := ifN h hc4
      refine g_aloadn (pc := 19) (i0 := 0) (j := 0) (dK D_Mo_readSize 9 rfl) rfl rfl ?_
      refine vg_iconst (pc := 20) (dK D_Mo_readSize 10 rfl) ?_
      refine bnE h (fun p6 e_p6 h => ?_)
      refine vg_cV (pc := 21) (As := [V 2]) (rest := []) (mc' := 0) (ms' := 0) (dK D_Mo_readSize 11 rfl) K_Mo_349 (fitK rfl) (ltK rfl) hc0 rfl (leK rfl) (leK rfl) (leK rfl) (tf_Mo_fail hc0 (inRk rfl) e_p6) (kcB ?_)
      exact vg_iretB (pc := 24) (b := p6.1) (dK D_Mo_readSize 12 rfl) rfl (leK rfl) (leK rfl) (fun _ => rfl) (by obtain rfl := Option.some.inj h; exact ⟨rfl, rfl⟩)
def fn_Mo_readAd (c0 : Nat) (S : St) : Option (Bool × St) := if (g S (tgt c0 0) 1) = 40 then (bnO (fn_Mo_fail c0 3 S) fun p23 => some (p23.1, p23.2)) else (bnO (fn_Mo_advance c0 S) fun p1 => nm (wr (29 + (7 * (g p1 (tgt c0 0) 1)))) fun v2 => nm (wr (v2 + 0)) fun v3 => bnO (fn_Mo_readSize c0 v3 p1) fun p4 => if p4.1 = true then (nm (wr (v2 + 1)) fun v6 => bnO (fn_Mo_readInto c0 v6 0 9 p4.2) fun p7 => if p7.1 = true then (nm (wr (v2 + 2)) fun v9 => bnO (fn_Mo_readInto c0 v9 0 1 p7.2) fun p10 => if p10.1 = true then (nm (wr (v2 + 3)) fun v12 => bnO (fn_Mo_readInto c0 v12 0 2 p10.2) fun p13 => if p13.1 = true then (nm (wr (v2 + 4)) fun v15 => bnO (fn_Mo_readInto c0 v15 1 999 p13.2) fun p16 => if p16.1 = true then (nm (wr (v2 + 5)) fun v18 => bnO (fn_Mo_readInto c0 v18 0 9999 p16.2) fun p19 => if p19.1 = true then (nm (u p19.2 (tgt c0 0) 1 ((g p19.2 (tgt c0 0) 1) + 1)) fun S21 => bnO (fn_Mo_readEnd c0 S21) fun p22 => some (p22.1, p22.2)) else (some (false, p19.2))) else (some (false, p16.2))) else (some (false, p13.2))) else (some (false, p10.2))) else (some (false, p7.2))) else (some (false, p4.2)))
set_option maxHeartbeats 20000000 in
theorem tf_Mo_readAd {E : EV} {X : XT} {c0 : Nat} (hc0 : HC X 11 c0) {S : St} {q : Bool × St} (h : fn_Mo_readAd c0 S = some q) : Ev E M_Mo_readAd [.ref c0] (WX X S) 0 0 (KB X q.1 q.2) := by
  refine Ev.of pn_Mo rfl (leK rfl) ?_
  show Go E M_Mo_readAd 0 0 0 [(0, .ref c0)] [] (WX X S) 0 0 (KB X q.1 q.2)
  unfold fn_Mo_readAd at h
  refine g_aloadn (pc := 0) (i0 := 0) (j := 0) (dK D_Mo_readAd_0 0 rfl) rfl rfl ?_
  refine vg_getA (pc := 1) (ci := 11) (f := 0) (dK D_Mo_readAd_0 1 rfl) q_1442 hc0 (ltK rfl) (ltK rfl) rfl ?_
  refine vg_iconst (pc := 4) (dK D_Mo_readAd_0 2 rfl) ?_
  refine vg_iaload (pc := 5) (j := 1) (dK D_Mo_readAd_0 3 rfl) (hw_11_0 hc0) rfl ⟨by decide, by decide⟩ rfl ?_
  refine vg_bipush (pc := 6) (dK D_Mo_readAd_0 4 rfl) rfl ?_
  refine vg_icmp_ne (pc := 8) (t := 17) (dK D_Mo_readAd_0 5 rfl) rfl (g_in _ _ _) (inRk rfl) (fun hc24 => ?_) (fun hc24 => ?_)
  · replace h := ifN h hc24
    refine g_aloadn (pc := 17) (i0 := 0) (j := 0) (dK D_Mo_readAd_0 10 rfl) rfl rfl ?_
    refine bnE h (fun p1 e_p1 h => ?_)
    refine vg_cV (pc := 18) (As := []) (rest := []) (mc' := 0) (ms' := 0) (dK D_Mo_readAd_0 11 rfl) K_Mo_355 (fitK rfl) (ltK rfl) hc0 rfl (leK rfl) (leK rfl) (leK rfl) (tf_Mo_advance hc0 e_p1) (kcU ?_)
    refine vg_bipush (pc := 21) (dK D_Mo_readAd_0 12 rfl) rfl ?_
    refine vg_bipush (pc := 23) (dK D_Mo_readAd_0 13 rfl) rfl ?_
    refine g_aloadn (pc := 25) (i0 := 0) (j := 0) (dK D_Mo_readAd_0 14 rfl) rfl rfl ?_
    refine vg_getA (pc := 26) (ci := 11) (f := 0) (dK D_Mo_readAd_0 15 rfl) q_1442 hc0 (ltK rfl) (ltK rfl) rfl ?_
    refine vg_iconst (pc := 29) (dK D_Mo_readAd_0 16 rfl) ?_
    refine vg_iaload (pc := 30) (j := 1) (dK D_Mo_readAd_0 17 rfl) (hw_11_0 hc0) rfl ⟨by decide, by decide⟩ rfl ?_
    refine vg_imul (pc := 31) (dK D_Mo_readAd_0 18 rfl) ?_
    refine vg_iadd (pc := 32) (dK D_Mo_readAd_0 19 rfl) ?_
    refine nmE h (fun v2 e_v2 h => ?_)
    refine gtop e_v2 ?_
    refine g_istoren (pc := 33) (i0 := 1) (ls2 := [(1, V v2), (0, .ref c0)]) (dK D_Mo_readAd_0 20 rfl) rfl (ltK rfl) rfl ?_
    refine g_aloadn (pc := 34) (i0 := 0) (j := 1) (dK D_Mo_readAd_0 21 rfl) rfl rfl ?_
    refine g_iloadn (pc := 35) (i0 := 1) (j := 0) (dK D_Mo_readAd_0 22 rfl) rfl rfl ?_
    refine vg_iconst (pc := 36) (dK D_Mo_readAd_0 23 rfl) ?_
    refine vg_iadd (pc := 37) (dK D_Mo_readAd_0 24 rfl) ?_
    refine nmE h (fun v3 e_v3 h => ?_)
    refine gtop e_v3 ?_
    refine bnE h (fun p4 e_p4 h => ?_)
    refine vg_cV (pc := 38) (As := [V v3]) (rest := []) (mc' := 0) (ms' := 0) (dK D_Mo_readAd_0 25 rfl) K_Mo_373 (fitK rfl) (ltK rfl) hc0 rfl (leK rfl) (leK rfl) (leK rfl) (tf_Mo_readSize hc0 (Vn_in e_v3) e_p4) (kcB ?_)
    refine vg_ifB_eq (pc := 41) (b := p4.1) (t := 109) (dK D_Mo_readAd_0 26 rfl) rfl (fun hc5 => ?_) (fun hc5 => ?_)
    · replace h := ifP h hc5
      refine g_aloadn (pc := 44) (i0 := 0) (j := 1) (dK D_Mo_readAd_0 27 rfl) rfl rfl ?_
      refine g_iloadn (pc := 45) (i0 := 1) (j := 0) (dK D_Mo_readAd_0 28 rfl) rfl rfl ?_
      refine vg_iconst (pc := 46) (dK D_Mo_readAd_0 29 rfl) ?_
      refine vg_iadd (pc := 47) (dK D_Mo_readAd_0 30 rfl) ?_
      refine vg_iconst (pc := 48) (dK D_Mo_readAd_0 31 rfl) ?_
      refine vg_bipush (pc := 49) (dK D_Mo_readAd_0 32 rfl) rfl ?_
      refine nmE h (fun v6 e_v6 h => ?_)
      refine gsk (st' := [V 9, V 0, V v6, .ref c0]) (by rw [Vn e_v6]) ?_
      refine bnE h (fun p7 e_p7 h => ?_)
      refine vg_cV (pc := 51) (As := [V v6, V 0, V 9]) (rest := []) (mc' := 0) (ms' := 0) (dK D_Mo_readAd_0 33 rfl) K_Mo_361 (fitK rfl) (ltK rfl) hc0 rfl (leK rfl) (leK rfl) (leK rfl) (tf_Mo_readInto hc0 (Vn_in e_v6) (inRk rfl) (inRk rfl) e_p7) (kcB ?_)
      refine vg_ifB_eq (pc := 54) (b := p7.1) (t := 109) (dK D_Mo_readAd_0 34 rfl) rfl (fun hc8 => ?_) (fun hc8 => ?_)
      · replace h := ifP h hc8
        refine g_aloadn (pc := 57) (i0 := 0) (j := 1) (dK D_Mo_readAd_0 35 rfl) rfl rfl ?_
        refine g_iloadn (pc := 58) (i0 := 1) (j := 0) (dK D_Mo_readAd_0 36 rfl) rfl rfl ?_
        refine vg_iconst (pc := 59) (dK D_Mo_readAd_0 37 rfl) ?_
        refine vg_iadd (pc := 60) (dK D_Mo_readAd_0 38 rfl) ?_
        refine vg_iconst (pc := 61) (dK D_Mo_readAd_0 39 rfl) ?_
        refine vg_iconst (pc := 62) (dK D_Mo_readAd_0 40 rfl) ?_
        refine nmE h (fun v9 e_v9 h => ?_)
        refine gsk (st' := [V 1, V 0, V v9, .ref c0]) (by rw [Vn e_v9]) ?_
        refine bnE h (fun p10 e_p10 h => ?_)
        refine vg_cV (pc := 63) (As := [V v9, V 0, V 1]) (rest := []) (mc' := 0) (ms' := 0) (dK D_Mo_readAd_0 41 rfl) K_Mo_361 (fitK rfl) (ltK rfl) hc0 rfl (leK rfl) (leK rfl) (leK rfl) (tf_Mo_readInto hc0 (Vn_in e_v9) (inRk rfl) (inRk rfl) e_p10) (kcB ?_)
        refine vg_ifB_eq (pc := 66) (b := p10.1) (t := 109) (dK D_Mo_readAd_0 42 rfl) rfl (fun hc11 => ?_) (fun hc11 => ?_)
        · replace h := ifP h hc11
          refine g_aloadn (pc := 69) (i0 := 0) (j := 1) (dK D_Mo_readAd_0 43 rfl) rfl rfl ?_
          refine g_iloadn (pc := 70) (i0 := 1) (j := 0) (dK D_Mo_readAd_0 44 rfl) rfl rfl ?_
          refine vg_iconst (pc := 71) (dK D_Mo_readAd_0 45 rfl) ?_
          refine vg_iadd (pc := 72) (dK D_Mo_readAd_0 46 rfl) ?_
          refine vg_iconst (pc := 73) (dK D_Mo_readAd_0 47 rfl) ?_
          refine vg_iconst (pc := 74) (dK D_Mo_readAd_0 48 rfl) ?_
          refine nmE h (fun v12 e_v12 h => ?_)
          refine gsk (st' := [V 2, V 0, V v12, .ref c0]) (by rw [Vn e_v12]) ?_
          refine bnE h (fun p13 e_p13 h => ?_)
          refine vg_cV (pc := 75) (As := [V v12, V 0, V 2]) (rest := []) (mc' := 0) (ms' := 0) (dK D_Mo_readAd_0 49 rfl) K_Mo_361 (fitK rfl) (ltK rfl) hc0 rfl (leK rfl) (leK rfl) (leK rfl) (tf_Mo_readInto hc0 (Vn_in e_v12) (inRk rfl) (inRk rfl) e_p13) (kcB ?_)
          refine vg_ifB_eq (pc := 78) (b := p13.1) (t := 109) (dK D_Mo_readAd_1 0 rfl) rfl (fun hc14 => ?_) (fun hc14 => ?_)
          · replace h := ifP h hc14
            refine g_aloadn (pc := 81) (i0 := 0) (j := 1) (dK D_Mo_readAd_1 1 rfl) rfl rfl ?_
            refine g_iloadn (pc := 82) (i0 := 1) (j := 0) (dK D_Mo_readAd_1 2 rfl) rfl rfl ?_
            refine vg_iconst (pc := 83) (dK D_Mo_readAd_1 3 rfl) ?_
            refine vg_iadd (pc := 84) (dK D_Mo_readAd_1 4 rfl) ?_
            refine vg_iconst (pc := 85) (dK D_Mo_readAd_1 5 rfl) ?_
            refine vg_sipush (pc := 86) (dK D_Mo_readAd_1 6 rfl) rfl ?_
            refine nmE h (fun v15 e_v15 h => ?_)
            refine gsk (st' := [V 999, V 1, V v15, .ref c0]) (by rw [Vn e_v15]) ?_
            refine bnE h (fun p16 e_p16 h => ?_)
            refine vg_cV (pc := 89) (As := [V v15, V 1, V 999]) (rest := []) (mc' := 0) (ms' := 0) (dK D_Mo_readAd_1 7 rfl) K_Mo_361 (fitK rfl) (ltK rfl) hc0 rfl (leK rfl) (leK rfl) (leK rfl) (tf_Mo_readInto hc0 (Vn_in e_v15) (inRk rfl) (inRk rfl) e_p16) (kcB ?_)
            refine vg_ifB_eq (pc := 92) (b := p16.1) (t := 109) (dK D_Mo_readAd_1 8 rfl) rfl (fun hc17 => ?_) (fun hc17 => ?_)
            · replace h := ifP h hc17
              refine g_aloadn (pc := 95) (i0 := 0) (j := 1) (dK D_Mo_readAd_1 9 rfl) rfl rfl ?_
              refine g_iloadn (pc := 96) (i0 := 1) (j := 0) (dK D_Mo_readAd_1 10 rfl) rfl rfl ?_
              refine vg_iconst (pc := 97) (dK D_Mo_readAd_1 11 rfl) ?_
              refine vg_iadd (pc := 98) (dK D_Mo_readAd_1 12 rfl) ?_
              refine vg_iconst (pc := 99) (dK D_Mo_readAd_1 13 rfl) ?_
              refine vg_sipush (pc := 100) (dK D_Mo_readAd_1 14 rfl) rfl ?_
              refine nmE h (fun v18 e_v18 h => ?_)
              refine gsk (st' := [V 9999, V 0, V v18, .ref c0]) (by rw [Vn e_v18]) ?_
              refine bnE h (fun p19 e_p19 h => ?_)
              refine vg_cV (pc := 103) (As := [V v18, V 0, V 9999]) (rest := []) (mc' := 0) (ms' := 0) (dK D_Mo_readAd_1 15 rfl) K_Mo_361 (fitK rfl) (ltK rfl) hc0 rfl (leK rfl) (leK rfl) (leK rfl) (tf_Mo_readInto hc0 (Vn_in e_v18) (inRk rfl) (inRk rfl) e_p19) (kcB ?_)
              refine vg_ifB_ne (pc := 106) (b := p19.1) (t := 111) (dK D_Mo_readAd_1 16 rfl) rfl (fun hc20 => ?_) (fun hc20 => ?_)
              · replace h := ifP h hc20
                refine g_aloadn (pc := 111) (i0 := 0) (j := 1) (dK D_Mo_readAd_1 19 rfl) rfl rfl ?_
                refine vg_getA (pc := 112) (ci := 11) (f := 0) (dK D_Mo_readAd_1 20 rfl) q_1442 hc0 (ltK rfl) (ltK rfl) rfl ?_
                refine vg_iconst (pc := 115) (dK D_Mo_readAd_1 21 rfl) ?_
                refine g_dup2 (pc := 116) (dK D_Mo_readAd_1 22 rfl) rfl rfl ?_
                refine vg_iaload (pc := 117) (j := 1) (dK D_Mo_readAd_1 23 rfl) (hw_11_0 hc0) rfl ⟨by decide, by decide⟩ rfl ?_
                refine vg_iconst (pc := 118) (dK D_Mo_readAd_1 24 rfl) ?_
                refine vg_iadd (pc := 119) (dK D_Mo_readAd_1 25 rfl) ?_
                refine nmE h (fun S21 e_S21 h => ?_)
                refine vg_iastore (pc := 120) (z := ((g p19.2 (tgt c0 0) 1) + 1)) (dK D_Mo_readAd_1 26 rfl) (hw_11_0 hc0) rfl ⟨by decide, by decide⟩ rfl e_S21 ?_
                refine g_aloadn (pc := 121) (i0 := 0) (j := 1) (dK D_Mo_readAd_1 27 rfl) rfl rfl ?_
                refine bnE h (fun p22 e_p22 h => ?_)
                refine vg_cV (pc := 122) (As := []) (rest := []) (mc' := 0) (ms' := 0) (dK D_Mo_readAd_1 28 rfl) K_Mo_369 (fitK rfl) (ltK rfl) hc0 rfl (leK rfl) (leK rfl) (leK rfl) (tf_Mo_readEnd hc0 e_p22) (kcB ?_)
                exact vg_iretB (pc := 125) (b := p22.1) (dK D_Mo_readAd_1 29 rfl) rfl (leK rfl) (leK rfl) (fun _ => rfl) (by obtain rfl := Option.some.inj h; exact ⟨rfl, rfl⟩)
              · replace h := ifN h hc20
                refine vg_iconst (pc := 109) (dK D_Mo_readAd_1 17 rfl) ?_
                exact vg_iretB (pc := 110) (b := false) (dK D_Mo_readAd_1 18 rfl) rfl (leK rfl) (leK rfl) (fun _ => rfl) (by obtain rfl := Option.some.inj h; exact ⟨rfl, rfl⟩)
            · replace h := ifN h hc17
              refine vg_iconst (pc := 109) (dK D_Mo_readAd_1 17 rfl) ?_
              exact vg_iretB (pc := 110) (b := false) (dK D_Mo_readAd_1 18 rfl) rfl (leK rfl) (leK rfl) (fun _ => rfl) (by obtain rfl := Option.some.inj h; exact ⟨rfl, rfl⟩)
          · replace h := ifN h hc14
            refine vg_iconst (pc := 109) (dK D_Mo_readAd_1 17 rfl) ?_
            exact vg_iretB (pc := 110) (b := false) (dK D_Mo_readAd_1 18 rfl) rfl (leK rfl) (leK rfl) (fun _ => rfl) (by obtain rfl := Option.some.inj h; exact ⟨rfl, rfl⟩)
        · replace h := ifN h hc11
          refine vg_iconst (pc := 109) (dK D_Mo_readAd_1 17 rfl) ?_
          exact vg_iretB (pc := 110) (b := false) (dK D_Mo_readAd_1 18 rfl) rfl (leK rfl) (leK rfl) (fun _ => rfl) (by obtain rfl := Option.some.inj h; exact ⟨rfl, rfl⟩)
      · replace h := ifN h hc8
        refine vg_iconst (pc := 109) (dK D_Mo_readAd_1 17 rfl) ?_
        exact vg_iretB (pc := 110) (b := false) (dK D_Mo_readAd_1 18 rfl) rfl (leK rfl) (leK rfl) (fun _ => rfl) (by obtain rfl := Option.some.inj h; exact ⟨rfl, rfl⟩)
    · replace h := ifN h hc5
      refine vg_iconst (pc := 109) (dK D_Mo_readAd_1 17 rfl) ?_
      exact vg_iretB (pc := 110) (b := false) (dK D_Mo_readAd_1 18 rfl) rfl (leK rfl) (leK rfl) (fun _ => rfl) (by obtain rfl := Option.some.inj h; exact ⟨rfl, rfl⟩)
  · replace h := ifP h hc24
    refine g_aloadn (pc := 11) (i0 := 0) (j := 0) (dK D_Mo_readAd_0 6 rfl) rfl rfl ?_
    refine vg_iconst (pc := 12) (dK D_Mo_readAd_0 7 rfl) ?_
    refine bnE h (fun p23 e_p23 h => ?_)
    refine vg_cV (pc := 13) (As := [V 3]) (rest := []) (mc' := 0) (ms' := 0) (dK D_Mo_readAd_0 8 rfl) K_Mo_349 (fitK rfl) (ltK rfl) hc0 rfl (leK rfl) (leK rfl) (leK rfl) (tf_Mo_fail hc0 (inRk rfl) e_p23) (kcB ?_)
    exact vg_iretB (pc := 16) (b := p23.1) (dK D_Mo_readAd_0 9 rfl) rfl (leK rfl) (leK rfl) (fun _ => rfl) (by obtain rfl := Option.some.inj h; exact ⟨rfl, rfl⟩)
def fn_Mo_readStory (c0 : Nat) (S : St) : Option (Bool × St) := if (g S (tgt c0 0) 2) = 10 then (bnO (fn_Mo_fail c0 3 S) fun p17 => some (p17.1, p17.2)) else (bnO (fn_Mo_advance c0 S) fun p1 => nm (wr (309 + (5 * (g p1 (tgt c0 0) 2)))) fun v2 => nm (wr (v2 + 0)) fun v3 => bnO (fn_Mo_readInto c0 v3 1 8 p1) fun p4 => if p4.1 = true then (nm (wr (v2 + 1)) fun v6 => bnO (fn_Mo_readInto c0 v6 0 1 p4.2) fun p7 => if p7.1 = true then (nm (wr (v2 + 2)) fun v9 => bnO (fn_Mo_readInto c0 v9 0 2 p7.2) fun p10 => if p10.1 = true then (nm (wr (v2 + 3)) fun v12 => bnO (fn_Mo_readInto c0 v12 0 9999 p10.2) fun p13 => if p13.1 = true then (nm (u p13.2 (tgt c0 0) 2 ((g p13.2 (tgt c0 0) 2) + 1)) fun S15 => bnO (fn_Mo_readEnd c0 S15) fun p16 => some (p16.1, p16.2)) else (some (false, p13.2))) else (some (false, p10.2))) else (some (false, p7.2))) else (some (false, p4.2)))
set_option maxHeartbeats 20000000 in
theorem tf_Mo_readStory {E : EV} {X : XT} {c0 : Nat} (hc0 : HC X 11 c0) {S : St} {q : Bool × St} (h : fn_Mo_readStory c0 S = some q) : Ev E M_Mo_readStory [.ref c0] (WX X S) 0 0 (KB X q.1 q.2) := by
  refine Ev.of pn_Mo rfl (leK rfl) ?_
  show Go E M_Mo_readStory 0 0 0 [(0, .ref c0)] [] (WX X S) 0 0 (KB X q.1 q.2)
  unfold fn_Mo_readStory at h
  refine g_aloadn (pc := 0) (i0 := 0) (j := 0) (dK D_Mo_readStory_0 0 rfl) rfl rfl ?_
  refine vg_getA (pc := 1) (ci := 11) (f := 0) (dK D_Mo_readStory_0 1 rfl) q_1442 hc0 (ltK rfl) (ltK rfl) rfl ?_
  refine vg_iconst (pc := 4) (dK D_Mo_readStory_0 2 rfl) ?_
  refine vg_iaload (pc := 5) (j := 2) (dK D_Mo_readStory_0 3 rfl) (hw_11_0 hc0) rfl ⟨by decide, by decide⟩ rfl ?_
  refine vg_bipush (pc := 6) (dK D_Mo_readStory_0 4 rfl) rfl ?_
  refine vg_icmp_ne (pc := 8) (t := 17) (dK D_Mo_readStory_0 5 rfl) rfl (g_in _ _ _) (inRk rfl) (fun hc18 => ?_) (fun hc18 => ?_)
  · replace h := ifN h hc18
    refine g_aloadn (pc := 17) (i0 := 0) (j := 0) (dK D_Mo_readStory_0 10 rfl) rfl rfl ?_
    refine bnE h (fun p1 e_p1 h => ?_)
    refine vg_cV (pc := 18) (As := []) (rest := []) (mc' := 0) (ms' := 0) (dK D_Mo_readStory_0 11 rfl) K_Mo_355 (fitK rfl) (ltK rfl) hc0 rfl (leK rfl) (leK rfl) (leK rfl) (tf_Mo_advance hc0 e_p1) (kcU ?_)
    refine vg_sipush (pc := 21) (dK D_Mo_readStory_0 12 rfl) rfl ?_
    refine vg_iconst (pc := 24) (dK D_Mo_readStory_0 13 rfl) ?_
    refine g_aloadn (pc := 25) (i0 := 0) (j := 0) (dK D_Mo_readStory_0 14 rfl) rfl rfl ?_
    refine vg_getA (pc := 26) (ci := 11) (f := 0) (dK D_Mo_readStory_0 15 rfl) q_1442 hc0 (ltK rfl) (ltK rfl) rfl ?_
    refine vg_iconst (pc := 29) (dK D_Mo_readStory_0 16 rfl) ?_
    refine vg_iaload (pc := 30) (j := 2) (dK D_Mo_readStory_0 17 rfl) (hw_11_0 hc0) rfl ⟨by decide, by decide⟩ rfl ?_
    refine vg_imul (pc := 31) (dK D_Mo_readStory_0 18 rfl) ?_
    refine vg_iadd (pc := 32) (dK D_Mo_readStory_0 19 rfl) ?_
    refine nmE h (fun v2 e_v2 h => ?_)
    refine gtop e_v2 ?_
    refine g_istoren (pc := 33) (i0 := 1) (ls2 := [(1, V v2), (0, .ref c0)]) (dK D_Mo_readStory_0 20 rfl) rfl (ltK rfl) rfl ?_
    refine g_aloadn (pc := 34) (i0 := 0) (j := 1) (dK D_Mo_readStory_0 21 rfl) rfl rfl ?_
    refine g_iloadn (pc := 35) (i0 := 1) (j := 0) (dK D_Mo_readStory_0 22 rfl) rfl rfl ?_
    refine vg_iconst (pc := 36) (dK D_Mo_readStory_0 23 rfl) ?_
    refine vg_iadd (pc := 37) (dK D_Mo_readStory_0 24 rfl) ?_
    refine vg_iconst (pc := 38) (dK D_Mo_readStory_0 25 rfl) ?_
    refine vg_bipush (pc := 39) (dK D_Mo_readStory_0 26 rfl) rfl ?_
    refine nmE h (fun v3 e_v3 h => ?_)
    refine gsk (st' := [V 8, V 1, V v3, .ref c0]) (by rw [Vn e_v3]) ?_
    refine bnE h (fun p4 e_p4 h => ?_)
    refine vg_cV (pc := 41) (As := [V v3, V 1, V 8]) (rest := []) (mc' := 0) (ms' := 0) (dK D_Mo_readStory_0 27 rfl) K_Mo_361 (fitK rfl) (ltK rfl) hc0 rfl (leK rfl) (leK rfl) (leK rfl) (tf_Mo_readInto hc0 (Vn_in e_v3) (inRk rfl) (inRk rfl) e_p4) (kcB ?_)
    refine vg_ifB_eq (pc := 44) (b := p4.1) (t := 85) (dK D_Mo_readStory_0 28 rfl) rfl (fun hc5 => ?_) (fun hc5 => ?_)
    · replace h := ifP h hc5
      refine g_aloadn (pc := 47) (i0 := 0) (j := 1) (dK D_Mo_readStory_0 29 rfl) rfl rfl ?_
      refine g_iloadn (pc := 48) (i0 := 1) (j := 0) (dK D_Mo_readStory_0 30 rfl) rfl rfl ?_
      refine vg_iconst (pc := 49) (dK D_Mo_readStory_0 31 rfl) ?_
      refine vg_iadd (pc := 50) (dK D_Mo_readStory_0 32 rfl) ?_
      refine vg_iconst (pc := 51) (dK D_Mo_readStory_0 33 rfl) ?_
      refine vg_iconst (pc := 52) (dK D_Mo_readStory_0 34 rfl) ?_
      refine nmE h (fun v6 e_v6 h => ?_)
      refine gsk (st' := [V 1, V 0, V v6, .ref c0]) (by rw [Vn e_v6]) ?_
      refine bnE h (fun p7 e_p7 h => ?_)
      refine vg_cV (pc := 53) (As := [V v6, V 0, V 1]) (rest := []) (mc' := 0) (ms' := 0) (dK D_Mo_readStory_0 35 rfl) K_Mo_361 (fitK rfl) (ltK rfl) hc0 rfl (leK rfl) (leK rfl) (leK rfl) (tf_Mo_readInto hc0 (Vn_in e_v6) (inRk rfl) (inRk rfl) e_p7) (kcB ?_)
      refine vg_ifB_eq (pc := 56) (b := p7.1) (t := 85) (dK D_Mo_readStory_0 36 rfl) rfl (fun hc8 => ?_) (fun hc8 => ?_)
      · replace h := ifP h hc8
        refine g_aloadn (pc := 59) (i0 := 0) (j := 1) (dK D_Mo_readStory_0 37 rfl) rfl rfl ?_
        refine g_iloadn (pc := 60) (i0 := 1) (j := 0) (dK D_Mo_readStory_0 38 rfl) rfl rfl ?_
        refine vg_iconst (pc := 61) (dK D_Mo_readStory_0 39 rfl) ?_
        refine vg_iadd (pc := 62) (dK D_Mo_readStory_0 40 rfl) ?_
        refine vg_iconst (pc := 63) (dK D_Mo_readStory_0 41 rfl) ?_
        refine vg_iconst (pc := 64) (dK D_Mo_readStory_0 42 rfl) ?_
        refine nmE h (fun v9 e_v9 h => ?_)
        refine gsk (st' := [V 2, V 0, V v9, .ref c0]) (by rw [Vn e_v9]) ?_
        refine bnE h (fun p10 e_p10 h => ?_)
        refine vg_cV (pc := 65) (As := [V v9, V 0, V 2]) (rest := []) (mc' := 0) (ms' := 0) (dK D_Mo_readStory_0 43 rfl) K_Mo_361 (fitK rfl) (ltK rfl) hc0 rfl (leK rfl) (leK rfl) (leK rfl) (tf_Mo_readInto hc0 (Vn_in e_v9) (inRk rfl) (inRk rfl) e_p10) (kcB ?_)
        refine vg_ifB_eq (pc := 68) (b := p10.1) (t := 85) (dK D_Mo_readStory_0 44 rfl) rfl (fun hc11 => ?_) (fun hc11 => ?_)
        · replace h := ifP h hc11
          refine g_aloadn (pc := 71) (i0 := 0) (j := 1) (dK D_Mo_readStory_0 45 rfl) rfl rfl ?_
          refine g_iloadn (pc := 72) (i0 := 1) (j := 0) (dK D_Mo_readStory_0 46 rfl) rfl rfl ?_
          refine vg_iconst (pc := 73) (dK D_Mo_readStory_0 47 rfl) ?_
          refine vg_iadd (pc := 74) (dK D_Mo_readStory_0 48 rfl) ?_
          refine vg_iconst (pc := 75) (dK D_Mo_readStory_0 49 rfl) ?_
          refine vg_sipush (pc := 76) (dK D_Mo_readStory_1 0 rfl) rfl ?_
          refine nmE h (fun v12 e_v12 h => ?_)
          refine gsk (st' := [V 9999, V 0, V v12, .ref c0]) (by rw [Vn e_v12]) ?_
          refine bnE h (fun p13 e_p13 h => ?_)
          refine vg_cV (pc := 79) (As := [V v12, V 0, V 9999]) (rest := []) (mc' := 0) (ms' := 0) (dK D_Mo_readStory_1 1 rfl) K_Mo_361 (fitK rfl) (ltK rfl) hc0 rfl (leK rfl) (leK rfl) (leK rfl) (tf_Mo_readInto hc0 (Vn_in e_v12) (inRk rfl) (inRk rfl) e_p13) (kcB ?_)
          refine vg_ifB_ne (pc := 82) (b := p13.1) (t := 87) (dK D_Mo_readStory_1 2 rfl) rfl (fun hc14 => ?_) (fun hc14 => ?_)
          · replace h := ifP h hc14
            refine g_aloadn (pc := 87) (i0 := 0) (j := 1) (dK D_Mo_readStory_1 5 rfl) rfl rfl ?_
            refine vg_getA (pc := 88) (ci := 11) (f := 0) (dK D_Mo_readStory_1 6 rfl) q_1442 hc0 (ltK rfl) (ltK rfl) rfl ?_
            refine vg_iconst (pc := 91) (dK D_Mo_readStory_1 7 rfl) ?_
            refine g_dup2 (pc := 92) (dK D_Mo_readStory_1 8 rfl) rfl rfl ?_
            refine vg_iaload (pc := 93) (j := 2) (dK D_Mo_readStory_1 9 rfl) (hw_11_0 hc0) rfl ⟨by decide, by decide⟩ rfl ?_
            refine vg_iconst (pc := 94) (dK D_Mo_readStory_1 10 rfl) ?_
            refine vg_iadd (pc := 95) (dK D_Mo_readStory_1 11 rfl) ?_
            refine nmE h (fun S15 e_S15 h => ?_)
            refine vg_iastore (pc := 96) (z := ((g p13.2 (tgt c0 0) 2) + 1)) (dK D_Mo_readStory_1 12 rfl) (hw_11_0 hc0) rfl ⟨by decide, by decide⟩ rfl e_S15 ?_
            refine g_aloadn (pc := 97) (i0 := 0) (j := 1) (dK D_Mo_readStory_1 13 rfl) rfl rfl ?_
            refine bnE h (fun p16 e_p16 h => ?_)
            refine vg_cV (pc := 98) (As := []) (rest := []) (mc' := 0) (ms' := 0) (dK D_Mo_readStory_1 14 rfl) K_Mo_369 (fitK rfl) (ltK rfl) hc0 rfl (leK rfl) (leK rfl) (leK rfl) (tf_Mo_readEnd hc0 e_p16) (kcB ?_)
            exact vg_iretB (pc := 101) (b := p16.1) (dK D_Mo_readStory_1 15 rfl) rfl (leK rfl) (leK rfl) (fun _ => rfl) (by obtain rfl := Option.some.inj h; exact ⟨rfl, rfl⟩)
          · replace h := ifN h hc14
            refine vg_iconst (pc := 85) (dK D_Mo_readStory_1 3 rfl) ?_
            exact vg_iretB (pc := 86) (b := false) (dK D_Mo_readStory_1 4 rfl) rfl (leK rfl) (leK rfl) (fun _ => rfl) (by obtain rfl := Option.some.inj h; exact ⟨rfl, rfl⟩)
        · replace h := ifN h hc11
          refine vg_iconst (pc := 85) (dK D_Mo_readStory_1 3 rfl) ?_
          exact vg_iretB (pc := 86) (b := false) (dK D_Mo_readStory_1 4 rfl) rfl (leK rfl) (leK rfl) (fun _ => rfl) (by obtain rfl := Option.some.inj h; exact ⟨rfl, rfl⟩)
      · replace h := ifN h hc8
        refine vg_iconst (pc := 85) (dK D_Mo_readStory_1 3 rfl) ?_
        exact vg_iretB (pc := 86) (b := false) (dK D_Mo_readStory_1 4 rfl) rfl (leK rfl) (leK rfl) (fun _ => rfl) (by obtain rfl := Option.some.inj h; exact ⟨rfl, rfl⟩)
    · replace h := ifN h hc5
      refine vg_iconst (pc := 85) (dK D_Mo_readStory_1 3 rfl) ?_
      exact vg_iretB (pc := 86) (b := false) (dK D_Mo_readStory_1 4 rfl) rfl (leK rfl) (leK rfl) (fun _ => rfl) (by obtain rfl := Option.some.inj h; exact ⟨rfl, rfl⟩)
  · replace h := ifP h hc18
    refine g_aloadn (pc := 11) (i0 := 0) (j := 0) (dK D_Mo_readStory_0 6 rfl) rfl rfl ?_
    refine vg_iconst (pc := 12) (dK D_Mo_readStory_0 7 rfl) ?_
    refine bnE h (fun p17 e_p17 h => ?_)
    refine vg_cV (pc := 13) (As := [V 3]) (rest := []) (mc' := 0) (ms' := 0) (dK D_Mo_readStory_0 8 rfl) K_Mo_349 (fitK rfl) (ltK rfl) hc0 rfl (leK rfl) (leK rfl) (leK rfl) (tf_Mo_fail hc0 (inRk rfl) e_p17) (kcB ?_)
    exact vg_iretB (pc := 16) (b := p17.1) (dK D_Mo_readStory_0 9 rfl) rfl (leK rfl) (leK rfl) (fun _ => rfl) (by obtain rfl := Option.some.inj h; exact ⟨rfl, rfl⟩)
def fn_Mo_readStandby (c0 : Nat) (S : St) : Option (Bool × St) := if (g S (tgt c0 0) 3) = 8 then (bnO (fn_Mo_fail c0 3 S) fun p7 => some (p7.1, p7.2)) else (bnO (fn_Mo_advance c0 S) fun p1 => nm (wr (359 + (2 * (g p1 (tgt c0 0) 3)))) fun v2 => bnO (fn_Mo_readSize c0 v2 p1) fun p3 => if p3.1 = true then (nm (u p3.2 (tgt c0 0) 3 ((g p3.2 (tgt c0 0) 3) + 1)) fun S5 => bnO (fn_Mo_readEnd c0 S5) fun p6 => some (p6.1, p6.2)) else (some (false, p3.2)))
theorem tf_Mo_readStandby {E : EV} {X : XT} {c0 : Nat} (hc0 : HC X 11 c0) {S : St} {q : Bool × St} (h : fn_Mo_readStandby c0 S = some q) : Ev E M_Mo_readStandby [.ref c0] (WX X S) 0 0 (KB X q.1 q.2) := by
  refine Ev.of pn_Mo rfl (leK rfl) ?_
  show Go E M_Mo_readStandby 0 0 0 [(0, .ref c0)] [] (WX X S) 0 0 (KB X q.1 q.2)
  unfold fn_Mo_readStandby at h
  refine g_aloadn (pc := 0) (i0 := 0) (j := 0) (dK D_Mo_readStandby 0 rfl) rfl rfl ?_
  refine vg_getA (pc := 1) (ci := 11) (f := 0) (dK D_Mo_readStandby 1 rfl) q_1442 hc0 (ltK rfl) (ltK rfl) rfl ?_
  refine vg_iconst (pc := 4) (dK D_Mo_readStandby 2 rfl) ?_
  refine vg_iaload (pc := 5) (j := 3) (dK D_Mo_readStandby 3 rfl) (hw_11_0 hc0) rfl ⟨by decide, by decide⟩ rfl ?_
  refine vg_bipush (pc := 6) (dK D_Mo_readStandby 4 rfl) rfl ?_
  refine vg_icmp_ne (pc := 8) (t := 17) (dK D_Mo_readStandby 5 rfl) rfl (g_in _ _ _) (inRk rfl) (fun hc8 => ?_) (fun hc8 => ?_)
  · replace h := ifN h hc8
    refine g_aloadn (pc := 17) (i0 := 0) (j := 0) (dK D_Mo_readStandby 10 rfl) rfl rfl ?_
    refine bnE h (fun p1 e_p1 h => ?_)
    refine vg_cV (pc := 18) (As := []) (rest := []) (mc' := 0) (ms' := 0) (dK D_Mo_readStandby 11 rfl) K_Mo_355 (fitK rfl) (ltK rfl) hc0 rfl (leK rfl) (leK rfl) (leK rfl) (tf_Mo_advance hc0 e_p1) (kcU ?_)
    refine g_aloadn (pc := 21) (i0 := 0) (j := 0) (dK D_Mo_readStandby 12 rfl) rfl rfl ?_
    refine vg_sipush (pc := 22) (dK D_Mo_readStandby 13 rfl) rfl ?_
    refine vg_iconst (pc := 25) (dK D_Mo_readStandby 14 rfl) ?_
    refine g_aloadn (pc := 26) (i0 := 0) (j := 0) (dK D_Mo_readStandby 15 rfl) rfl rfl ?_
    refine vg_getA (pc := 27) (ci := 11) (f := 0) (dK D_Mo_readStandby 16 rfl) q_1442 hc0 (ltK rfl) (ltK rfl) rfl ?_
    refine vg_iconst (pc := 30) (dK D_Mo_readStandby 17 rfl) ?_
    refine vg_iaload (pc := 31) (j := 3) (dK D_Mo_readStandby 18 rfl) (hw_11_0 hc0) rfl ⟨by decide, by decide⟩ rfl ?_
    refine vg_imul (pc := 32) (dK D_Mo_readStandby 19 rfl) ?_
    refine vg_iadd (pc := 33) (dK D_Mo_readStandby 20 rfl) ?_
    refine nmE h (fun v2 e_v2 h => ?_)
    refine gtop e_v2 ?_
    refine bnE h (fun p3 e_p3 h => ?_)
    refine vg_cV (pc := 34) (As := [V v2]) (rest := []) (mc' := 0) (ms' := 0) (dK D_Mo_readStandby 21 rfl) K_Mo_373 (fitK rfl) (ltK rfl) hc0 rfl (leK rfl) (leK rfl) (leK rfl) (tf_Mo_readSize hc0 (Vn_in e_v2) e_p3) (kcB ?_)
    refine vg_ifB_ne (pc := 37) (b := p3.1) (t := 42) (dK D_Mo_readStandby 22 rfl) rfl (fun hc4 => ?_) (fun hc4 => ?_)
    · replace h := ifP h hc4
      refine g_aloadn (pc := 42) (i0 := 0) (j := 0) (dK D_Mo_readStandby 25 rfl) rfl rfl ?_
      refine vg_getA (pc := 43) (ci := 11) (f := 0) (dK D_Mo_readStandby 26 rfl) q_1442 hc0 (ltK rfl) (ltK rfl) rfl ?_
      refine vg_iconst (pc := 46) (dK D_Mo_readStandby 27 rfl) ?_
      refine g_dup2 (pc := 47) (dK D_Mo_readStandby 28 rfl) rfl rfl ?_
      refine vg_iaload (pc := 48) (j := 3) (dK D_Mo_readStandby 29 rfl) (hw_11_0 hc0) rfl ⟨by decide, by decide⟩ rfl ?_
      refine vg_iconst (pc := 49) (dK D_Mo_readStandby 30 rfl) ?_
      refine vg_iadd (pc := 50) (dK D_Mo_readStandby 31 rfl) ?_
      refine nmE h (fun S5 e_S5 h => ?_)
      refine vg_iastore (pc := 51) (z := ((g p3.2 (tgt c0 0) 3) + 1)) (dK D_Mo_readStandby 32 rfl) (hw_11_0 hc0) rfl ⟨by decide, by decide⟩ rfl e_S5 ?_
      refine g_aloadn (pc := 52) (i0 := 0) (j := 0) (dK D_Mo_readStandby 33 rfl) rfl rfl ?_
      refine bnE h (fun p6 e_p6 h => ?_)
      refine vg_cV (pc := 53) (As := []) (rest := []) (mc' := 0) (ms' := 0) (dK D_Mo_readStandby 34 rfl) K_Mo_369 (fitK rfl) (ltK rfl) hc0 rfl (leK rfl) (leK rfl) (leK rfl) (tf_Mo_readEnd hc0 e_p6) (kcB ?_)
      exact vg_iretB (pc := 56) (b := p6.1) (dK D_Mo_readStandby 35 rfl) rfl (leK rfl) (leK rfl) (fun _ => rfl) (by obtain rfl := Option.some.inj h; exact ⟨rfl, rfl⟩)
    · replace h := ifN h hc4
      refine vg_iconst (pc := 40) (dK D_Mo_readStandby 23 rfl) ?_
      exact vg_iretB (pc := 41) (b := false) (dK D_Mo_readStandby 24 rfl) rfl (leK rfl) (leK rfl) (fun _ => rfl) (by obtain rfl := Option.some.inj h; exact ⟨rfl, rfl⟩)
  · replace h := ifP h hc8
    refine g_aloadn (pc := 11) (i0 := 0) (j := 0) (dK D_Mo_readStandby 6 rfl) rfl rfl ?_
    refine vg_iconst (pc := 12) (dK D_Mo_readStandby 7 rfl) ?_
    refine bnE h (fun p7 e_p7 h => ?_)
    refine vg_cV (pc := 13) (As := [V 3]) (rest := []) (mc' := 0) (ms' := 0) (dK D_Mo_readStandby 8 rfl) K_Mo_349 (fitK rfl) (ltK rfl) hc0 rfl (leK rfl) (leK rfl) (leK rfl) (tf_Mo_fail hc0 (inRk rfl) e_p7) (kcB ?_)
    exact vg_iretB (pc := 16) (b := p7.1) (dK D_Mo_readStandby 9 rfl) rfl (leK rfl) (leK rfl) (fun _ => rfl) (by obtain rfl := Option.some.inj h; exact ⟨rfl, rfl⟩)
def fn_Mo_readClosing (c0 : Nat) (S : St) : Option (Bool × St) := bnO (fn_Mo_advance c0 S) fun p1 => bnO (fn_Mo_formMany c0 p1) fun p2 => nm (wr (p2 - 1)) fun v3 => bnO (fn_Mo_readNumber c0 0 v3 p1) fun p4 => if p4.1 = true then (nm (wr ((5 + (3 * (g p4.2 c0 20))) + 2)) fun v6 => bnO (fn_Mo_readInto c0 v6 1 9999 p4.2) fun p7 => if p7.1 = true then (bnO (fn_Mo_readEnd c0 p7.2) fun p9 => if p9.1 = true then (some (true, p9.2)) else (some (false, p9.2))) else (some (false, p7.2))) else (some (false, p4.2))
theorem tf_Mo_readClosing {E : EV} {X : XT} {c0 : Nat} (hc0 : HC X 11 c0) {S : St} {q : Bool × St} (h : fn_Mo_readClosing c0 S = some q) : Ev E M_Mo_readClosing [.ref c0] (WX X S) 0 0 (KB X q.1 q.2) := by
  refine Ev.of pn_Mo rfl (leK rfl) ?_
  show Go E M_Mo_readClosing 0 0 0 [(0, .ref c0)] [] (WX X S) 0 0 (KB X q.1 q.2)
  unfold fn_Mo_readClosing at h
  refine g_aloadn (pc := 0) (i0 := 0) (j := 0) (dK D_Mo_readClosing 0 rfl) rfl rfl ?_
  refine bnE h (fun p1 e_p1 h => ?_)
  refine vg_cV (pc := 1) (As := []) (rest := []) (mc' := 0) (ms' := 0) (dK D_Mo_readClosing 1 rfl) K_Mo_355 (fitK rfl) (ltK rfl) hc0 rfl (leK rfl) (leK rfl) (leK rfl) (tf_Mo_advance hc0 e_p1) (kcU ?_)
  refine g_aloadn (pc := 4) (i0 := 0) (j := 0) (dK D_Mo_readClosing 2 rfl) rfl rfl ?_
  refine vg_iconst (pc := 5) (dK D_Mo_readClosing 3 rfl) ?_
  refine g_aloadn (pc := 6) (i0 := 0) (j := 0) (dK D_Mo_readClosing 4 rfl) rfl rfl ?_
  refine bnE h (fun p2 e_p2 h => ?_)
  refine vg_cV (pc := 7) (As := []) (rest := [V 0, .ref c0]) (mc' := 0) (ms' := 0) (dK D_Mo_readClosing 5 rfl) K_Mo_71 (fitK rfl) (ltK rfl) hc0 rfl (leK rfl) (leK rfl) (leK rfl) (tf_Mo_formMany hc0 e_p2) (kcI (fun h_p2 => ?_))
  refine vg_iconst (pc := 10) (dK D_Mo_readClosing 6 rfl) ?_
  refine vg_isub (pc := 11) (dK D_Mo_readClosing 7 rfl) ?_
  refine nmE h (fun v3 e_v3 h => ?_)
  refine gtop e_v3 ?_
  refine bnE h (fun p4 e_p4 h => ?_)
  refine vg_cV (pc := 12) (As := [V 0, V v3]) (rest := []) (mc' := 0) (ms' := 0) (dK D_Mo_readClosing 8 rfl) K_Mo_358 (fitK rfl) (ltK rfl) hc0 rfl (leK rfl) (leK rfl) (leK rfl) (tf_Mo_readNumber hc0 (inRk rfl) (Vn_in e_v3) e_p4) (kcB ?_)
  refine vg_ifB_ne (pc := 15) (b := p4.1) (t := 20) (dK D_Mo_readClosing 9 rfl) rfl (fun hc5 => ?_) (fun hc5 => ?_)
  · replace h := ifP h hc5
    refine g_aloadn (pc := 20) (i0 := 0) (j := 0) (dK D_Mo_readClosing 12 rfl) rfl rfl ?_
    refine vg_iconst (pc := 21) (dK D_Mo_readClosing 13 rfl) ?_
    refine vg_iconst (pc := 22) (dK D_Mo_readClosing 14 rfl) ?_
    refine g_aloadn (pc := 23) (i0 := 0) (j := 0) (dK D_Mo_readClosing 15 rfl) rfl rfl ?_
    refine vg_getI (pc := 24) (ci := 11) (f := 20) (dK D_Mo_readClosing 16 rfl) q_1462 hc0 (ltK rfl) (ltK rfl) rfl ?_
    refine vg_imul (pc := 27) (dK D_Mo_readClosing 17 rfl) ?_
    refine vg_iadd (pc := 28) (dK D_Mo_readClosing 18 rfl) ?_
    refine vg_iconst (pc := 29) (dK D_Mo_readClosing 19 rfl) ?_
    refine vg_iadd (pc := 30) (dK D_Mo_readClosing 20 rfl) ?_
    refine vg_iconst (pc := 31) (dK D_Mo_readClosing 21 rfl) ?_
    refine vg_sipush (pc := 32) (dK D_Mo_readClosing 22 rfl) rfl ?_
    refine nmE h (fun v6 e_v6 h => ?_)
    refine gsk (st' := [V 9999, V 1, V v6, .ref c0]) (by rw [Vn e_v6]) ?_
    refine bnE h (fun p7 e_p7 h => ?_)
    refine vg_cV (pc := 35) (As := [V v6, V 1, V 9999]) (rest := []) (mc' := 0) (ms' := 0) (dK D_Mo_readClosing 23 rfl) K_Mo_361 (fitK rfl) (ltK rfl) hc0 rfl (leK rfl) (leK rfl) (leK rfl) (tf_Mo_readInto hc0 (Vn_in e_v6) (inRk rfl) (inRk rfl) e_p7) (kcB ?_)
    refine vg_ifB_eq (pc := 38) (b := p7.1) (t := 52) (dK D_Mo_readClosing 24 rfl) rfl (fun hc8 => ?_) (fun hc8 => ?_)
    · replace h := ifP h hc8
      refine g_aloadn (pc := 41) (i0 := 0) (j := 0) (dK D_Mo_readClosing 25 rfl) rfl rfl ?_
      refine bnE h (fun p9 e_p9 h => ?_)
      refine vg_cV (pc := 42) (As := []) (rest := []) (mc' := 0) (ms' := 0) (dK D_Mo_readClosing 26 rfl) K_Mo_369 (fitK rfl) (ltK rfl) hc0 rfl (leK rfl) (leK rfl) (leK rfl) (tf_Mo_readEnd hc0 e_p9) (kcB ?_)
      refine vg_ifB_eq (pc := 45) (b := p9.1) (t := 52) (dK D_Mo_readClosing 27 rfl) rfl (fun hc10 => ?_) (fun hc10 => ?_)
      · replace h := ifP h hc10
        refine vg_iconst (pc := 48) (dK D_Mo_readClosing 28 rfl) ?_
        refine g_goto (pc := 49) (tgt := 53) (dK D_Mo_readClosing 29 rfl) rfl ?_
        exact vg_iretB (pc := 53) (b := true) (dK D_Mo_readClosing 31 rfl) rfl (leK rfl) (leK rfl) (fun _ => rfl) (by obtain rfl := Option.some.inj h; exact ⟨rfl, rfl⟩)
      · replace h := ifN h hc10
        refine vg_iconst (pc := 52) (dK D_Mo_readClosing 30 rfl) ?_
        exact vg_iretB (pc := 53) (b := false) (dK D_Mo_readClosing 31 rfl) rfl (leK rfl) (leK rfl) (fun _ => rfl) (by obtain rfl := Option.some.inj h; exact ⟨rfl, rfl⟩)
    · replace h := ifN h hc8
      refine vg_iconst (pc := 52) (dK D_Mo_readClosing 30 rfl) ?_
      exact vg_iretB (pc := 53) (b := false) (dK D_Mo_readClosing 31 rfl) rfl (leK rfl) (leK rfl) (fun _ => rfl) (by obtain rfl := Option.some.inj h; exact ⟨rfl, rfl⟩)
  · replace h := ifN h hc5
    refine vg_iconst (pc := 18) (dK D_Mo_readClosing 10 rfl) ?_
    exact vg_iretB (pc := 19) (b := false) (dK D_Mo_readClosing 11 rfl) rfl (leK rfl) (leK rfl) (fun _ => rfl) (by obtain rfl := Option.some.inj h; exact ⟨rfl, rfl⟩)
